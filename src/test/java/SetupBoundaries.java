/** Boundary cases of the setup text, and of the promises about it. */
final class SetupBoundaries extends Sentences {
    private SetupBoundaries() {
    }

    static void all() {
        section("Terms");
        constants();
        input();
        ranges();
        statements();
        tokens();
        errors();
        whatErrorsAndLoadsChange();
        section("Promise 1");
        newObject();
        section("Promise 2");
        appending();
        section("Promise 3");
        truncating();
        section("Promise 4");
        loading();
        section("Promise 5");
        codes();
    }

    private static void constants() {
        holds("The constants: NONE = -1: There is no such thing; refused.", () -> due(-1, () -> GateCounter.NONE));
        holds("NO_ERROR = 0: No error.", () -> due(0, () -> GateCounter.NO_ERROR));
        holds("SYNTAX = 1: Error code: the text does not follow the form.", () -> due(1, () -> GateCounter.SYNTAX));
        holds("OUT_OF_RANGE = 2: Error code: a number is out of range.", () -> due(2, () -> GateCounter.OUT_OF_RANGE));
        holds("REPEATED = 3: Error code: something is told again.", () -> due(3, () -> GateCounter.REPEATED));
        holds("ORDER = 4: Error code: a time is not greater than the one before it.", () -> due(4, () -> GateCounter.ORDER));
        holds("TOO_MANY = 5: Error code: there are too many segments.", () -> due(5, () -> GateCounter.TOO_MANY));
        holds("LATE = 1, SILENT = 2, SHORT = 3, NO_CLOCK = 4: Reasons for which something is refused.", () -> due("1 2 3 4",
            () -> GateCounter.LATE + " " + GateCounter.SILENT + " " + GateCounter.SHORT + " " + GateCounter.NO_CLOCK));
    }

    private static void dueLoaded(String text, String settings) {
        due(settings, () -> settings(counter(text)));
    }

    /** A number of spaces, in steps of 20. */
    private static GateCounter filled(int length) {
        GateCounter x = new GateCounter();
        for (int i = 0; i < length; i += 20) {
            x.appendInput(0x20202020, 0x20202020, 0x20202020, 0x20202020, 0x20202020);
        }
        return x;
    }

    private static void input() {
        holds("The input buffer holds at most 500 bytes.", () -> {
            GateCounter x = filled(480);
            due(500, () -> x.appendInput(0, 0, 0, 0, 0));
            due(-1, () -> x.appendInput(0, 0, 0, 0, 0));
            due(false, () -> x.truncateInput(501));
            due(true, () -> x.truncateInput(500));
        });
        holds("S a number with or without a minus sign ahead (spaces and line feeds may stand between both)", () -> {
            dueLoaded("clock 10 drift - \n 5 age -\n1;", "10,-5,-1,1,10,1,0");
            dueLoaded("clock 10 drift-5 age-1;", "10,-5,-1,1,10,1,0");
            dueLoaded("clock 10 drift 5 age 1;", "10,5,1,1,10,1,0");
            dueLoaded("clock 10 drift -0 age -0;", "10,0,0,1,10,1,0");
            dueError("clock 10 drift - - 5;", GateCounter.SYNTAX, 17);
        });
        holds("N is a number", () -> {
            dueError("clock -10;", GateCounter.SYNTAX, 6);
            dueError("clock 10;prescale -1;", GateCounter.SYNTAX, 18);
            dueError("clock 10;gate -1;", GateCounter.SYNTAX, 14);
            dueError("clock 10;periods -1;", GateCounter.SYNTAX, 17);
            dueError("clock 10;signal -1 1;", GateCounter.SYNTAX, 16);
            dueError("clock 10;signal 1 -1;", GateCounter.SYNTAX, 18);
        });
        holds("The text is a sequence of statements, each followed by a semicolon;", () -> {
            dueLoaded("clock 10;", "10,0,0,1,10,1,0");
            dueLoaded("clock 11;periods 5;prescale 4;gate 3;", "11,0,0,4,3,5,0");
            dueLoaded("clock 11;gate 3;prescale 4;signal 1 1;periods 5;signal 2 2;", "11,0,0,4,3,5,0");
            dueError("clock 10", GateCounter.SYNTAX, 8);
            dueError("clock 10;gate 5", GateCounter.SYNTAX, 15);
            dueError("clock 10;gate 5 periods 5;", GateCounter.SYNTAX, 16);
            dueError("clock 10;;", GateCounter.SYNTAX, 9);
            dueError(";clock 10;", GateCounter.SYNTAX, 0);
        });
    }

    private static void ranges() {
        holds("clock N [ drift S ] [ age S ] STEP (10 to 999)", () -> {
            dueLoaded("clock 12;", "12,0,0,1,10,1,0");
            dueLoaded("clock 12 drift -3;", "12,-3,0,1,10,1,0");
            dueLoaded("clock 12 age -1;", "12,0,-1,1,10,1,0");
            dueLoaded("clock 12 drift -3 age 1;", "12,-3,1,1,10,1,0");
            dueError("clock 9;", GateCounter.OUT_OF_RANGE, 6);
            dueLoaded("clock 10;", "10,0,0,1,10,1,0");
            dueLoaded("clock 999;", "999,0,0,1,10,1,0");
            dueError("clock 1000;", GateCounter.OUT_OF_RANGE, 6);
            dueError("clock 0;", GateCounter.OUT_OF_RANGE, 6);
            dueError("clock 999999;", GateCounter.OUT_OF_RANGE, 6);
        });
        holds("DRIFT (-99 to 99, 0 without it)", () -> {
            dueError("clock 10 drift -100;", GateCounter.OUT_OF_RANGE, 16);
            dueLoaded("clock 10 drift -99;", "10,-99,0,1,10,1,0");
            dueLoaded("clock 10 drift 99;", "10,99,0,1,10,1,0");
            dueError("clock 10 drift 100;", GateCounter.OUT_OF_RANGE, 15);
            dueLoaded("clock 10 age 1;", "10,0,1,1,10,1,0");
        });
        holds("AGE (-1 to 1, 0 without it)", () -> {
            dueError("clock 10 age -2;", GateCounter.OUT_OF_RANGE, 14);
            dueLoaded("clock 10 age -1;", "10,0,-1,1,10,1,0");
            dueLoaded("clock 10 age 0;", "10,0,0,1,10,1,0");
            dueLoaded("clock 10 age 1;", "10,0,1,1,10,1,0");
            dueError("clock 10 age 2;", GateCounter.OUT_OF_RANGE, 13);
            dueLoaded("clock 10 drift 7;", "10,7,0,1,10,1,0");
        });
        holds("prescale N P; 1 without it", () -> {
            int[] allowed = {1, 2, 4, 8, 16};
            for (int p : allowed) {
                dueLoaded("clock 10;prescale " + p + ";", "10,0,0," + p + ",10,1,0");
            }
            int[] others = {0, 3, 5, 6, 7, 9, 10, 12, 15, 17, 32, 64, 999999};
            for (int p : others) {
                dueError("clock 10;prescale " + p + ";", GateCounter.OUT_OF_RANGE, 18);
            }
            dueLoaded("clock 10;gate 7;", "10,0,0,1,7,1,0");
        });
        holds("gate N GATE, 1 to 9999; 10 without it", () -> {
            dueError("clock 10;gate 0;", GateCounter.OUT_OF_RANGE, 14);
            dueLoaded("clock 10;gate 1;", "10,0,0,1,1,1,0");
            dueLoaded("clock 10;gate 9999;", "10,0,0,1,9999,1,0");
            dueError("clock 10;gate 10000;", GateCounter.OUT_OF_RANGE, 14);
            dueLoaded("clock 10;periods 7;", "10,0,0,1,10,7,0");
        });
        holds("periods N PERIODS, 1 to 999; 1 without it", () -> {
            dueError("clock 10;periods 0;", GateCounter.OUT_OF_RANGE, 17);
            dueLoaded("clock 10;periods 1;", "10,0,0,1,10,1,0");
            dueLoaded("clock 10;periods 999;", "10,0,0,1,10,999,0");
            dueError("clock 10;periods 1000;", GateCounter.OUT_OF_RANGE, 17);
            dueLoaded("clock 10;prescale 2;", "10,0,0,2,10,1,0");
        });
        holds("signal N N a segment: its time (0 to 999999), its PERIOD (0 to 9999)", () -> {
            due("0/0 999999/9999", () -> signal(counter("clock 10;signal 0 0;signal 999999 9999;")));
            // A greater time has seven digits, which are too many for any number.
            dueError("clock 10;signal 1000000 0;", GateCounter.SYNTAX, 16);
            dueError("clock 10;signal 0 10000;", GateCounter.OUT_OF_RANGE, 18);
            dueError("clock 10;signal 5 999999;", GateCounter.OUT_OF_RANGE, 18);
        });
    }

    private static void statements() {
        holds("the first statement, and only there", () -> {
            dueError("gate 10;clock 10;", GateCounter.SYNTAX, 0);
            dueError("clock 10;clock 10;", GateCounter.SYNTAX, 9);
            dueError("clock 10;gate 5;clock 10;", GateCounter.SYNTAX, 16);
            dueError("clock 10;drift 5;", GateCounter.SYNTAX, 9);
            dueError("clock 10;age 1;", GateCounter.SYNTAX, 9);
            dueError("clock 10 age 1 drift 1;", GateCounter.SYNTAX, 15);
            dueError("clock 10 drift 1 drift 1;", GateCounter.SYNTAX, 17);
            dueError("clock 10 age 1 age 1;", GateCounter.SYNTAX, 15);
        });
        holds("Each of prescale, gate and periods may stand once.", () -> {
            dueLoaded("clock 10;periods 3;gate 4;prescale 2;", "10,0,0,2,4,3,0");
            dueError("clock 10;periods 3;gate 4;prescale 2;periods 3;", GateCounter.REPEATED, 37);
            dueError("clock 10;periods 3;gate 4;prescale 2;gate 4;", GateCounter.REPEATED, 37);
            dueError("clock 10;periods 3;gate 4;prescale 2;prescale 2;", GateCounter.REPEATED, 37);
            // What one text told may be told by the next one again, also behind one that was wrong.
            GateCounter x = new GateCounter();
            String[] texts = {"clock 10;gate 5;prescale 2;periods 6;gate", "clock 10;gate 5;prescale 2;periods 6;"};
            for (String text : texts) {
                append(x, text);
                x.loadCounter();
            }
            append(x, texts[1]);
            due(0, () -> x.loadCounter());
        });
        holds("There are at most 8 segments;", () -> {
            due(8, () -> counter("clock 10;" + segments(8)).count(4));
            // With all 8 of them, to come and come, every question has an answer.
            for (int time = 0; time <= 9; time++) {
                GateCounter x = counter("clock 10;" + segments(8));
                x.runTo(time);
                // Each one drops the edge of its time, so the first one to come is at 9.
                due(100000 - 8, () -> x.count(2) + x.edgesIn(100000 - x.count(0)));
                askEverything(x);
            }
            dueError("clock 10;" + segments(9), GateCounter.TOO_MANY, 9 + 8 * 11);
        });
        holds("their times ascend.", () -> {
            due("0/1 1/1 2/1", () -> signal(counter("clock 10;signal 0 1;signal 1 1;signal 2 1;")));
            dueError("clock 10;signal 1 1;signal 0 1;", GateCounter.ORDER, 27);
        });
    }

    private static String segments(int number) {
        StringBuilder text = new StringBuilder();
        for (int i = 1; i <= number; i++) {
            text.append("signal ").append(i).append(" 1;");
        }
        return text.toString();
    }

    private static void tokens() {
        holds("Tokens are words (maximal runs of the letters a to z)", () -> {
            dueLoaded("clock10drift5age1;gate7;", "10,5,1,1,7,1,0");
            dueError("clocks 10;", GateCounter.SYNTAX, 0);
            dueError("cloc 10;", GateCounter.SYNTAX, 0);
            dueError("cl ock 10;", GateCounter.SYNTAX, 0);
            dueError("clock 10;gates 5;", GateCounter.SYNTAX, 9);
            dueError("clock 10;gatez 5;", GateCounter.SYNTAX, 9);
            dueError("clock 10;agate 5;", GateCounter.SYNTAX, 9);
            dueError("clock 10;a 5;", GateCounter.SYNTAX, 9);
            dueError("clock 10;z 5;", GateCounter.SYNTAX, 9);
            dueError("Clock 10;", GateCounter.SYNTAX, 0);
            // Those next to a and z are no letters, so they end the word.
            dueError("clock{10;", GateCounter.SYNTAX, 5);
            dueError("clock`10;", GateCounter.SYNTAX, 5);
        });
        holds("numbers (maximal runs of digits, 1 to 6 of them), semicolons and minus signs.", () -> {
            // A semicolon and a minus sign end a word and a number, and each is a token by itself.
            dueLoaded("clock10drift-5age-1;gate9;periods9;", "10,-5,-1,1,9,9,0");
            dueError("clock10;;", GateCounter.SYNTAX, 8);
            dueError("clock10drift--5;", GateCounter.SYNTAX, 13);
            dueLoaded("clock 000010;", "10,0,0,1,10,1,0");
            dueError("clock 0000010;", GateCounter.SYNTAX, 6);
            due("999999/1", () -> signal(counter("clock 10;signal 999999 1;")));
            dueError("clock 1 0;", GateCounter.OUT_OF_RANGE, 6);
            // Those next to 0 and 9 are no digits, so they end the number.
            dueError("clock 10/;", GateCounter.SYNTAX, 8);
            dueError("clock 10:;", GateCounter.SYNTAX, 8);
        });
        holds("Spaces (32) and line feeds (10) may stand between tokens.", () -> {
            dueLoaded("\n \nclock\n 10 \n drift\n-\n1 ;\n\n gate \n 9\n;  ", "10,-1,0,1,9,1,0");
            dueError("clo\nck 10;", GateCounter.SYNTAX, 0);
            dueError("clock 10;gate 5 0;", GateCounter.SYNTAX, 16);
            int[] others = {0, 9, 11, 13, 31, 33, 127, 160, 255};
            for (int sign : others) {
                dueError("clock" + (char) sign + "10;", GateCounter.SYNTAX, 5);
            }
        });
        holds("A text is parsed from left to right, and the first error met is reported, with an offset in bytes from 0", () -> {
            dueError("clock 9;gate 0;?", GateCounter.OUT_OF_RANGE, 6);
            dueError("clock 10;gate 0;gate 0000000", GateCounter.OUT_OF_RANGE, 14);
            dueError("?clock 9;", GateCounter.SYNTAX, 0);
        });
        holds("if several errors apply to one token, the one with the smallest code", () -> {
            dueError("clock 0000009;", GateCounter.SYNTAX, 6);
            dueError("clock 10;signal 5 1;signal 0000004 1;", GateCounter.SYNTAX, 27);
            dueError("clock 10;prescale 0000003;", GateCounter.SYNTAX, 18);
            dueError("clock 10;gate 5 gate 5;", GateCounter.SYNTAX, 16);
            dueError("clock 10;gate 5;gate gate;", GateCounter.REPEATED, 16);
            dueError("clock 10;gate gate;", GateCounter.SYNTAX, 14);
            dueError("clock 10;" + segments(7) + "signal 9 1 signal 10 1;", GateCounter.SYNTAX, 9 + 7 * 11 + 11);
        });
    }

    private static void errors() {
        holds("SYNTAX: a token that cannot stand at its place (also the end of an empty text)", () -> {
            dueError("", GateCounter.SYNTAX, 0);
            dueError("10;", GateCounter.SYNTAX, 0);
            dueError("clock clock;", GateCounter.SYNTAX, 6);
            dueError("clock 10 10;", GateCounter.SYNTAX, 9);
            dueError("clock 10 -;", GateCounter.SYNTAX, 9);
            dueError("clock 10;5;", GateCounter.SYNTAX, 9);
            dueError("clock 10;-;", GateCounter.SYNTAX, 9);
            dueError("clock 10;signal 1;", GateCounter.SYNTAX, 17);
            dueError("clock 10;signal 1 2 3;", GateCounter.SYNTAX, 20);
        });
        holds("a token that cannot stand at its place", () -> {
            // Each word with another letter in place of one of its own, and something else in place of each number.
            String[] known = {"clock", "drift", "age", "prescale", "gate", "periods", "signal"};
            String[] ahead = {"", "clock 10 ", "clock 10 ", "clock 10;", "clock 10;", "clock 10;", "clock 10;"};
            for (int i = 0; i < known.length; i++) {
                for (int letter = 0; letter < known[i].length(); letter++) {
                    String word = known[i].substring(0, letter) + "x" + known[i].substring(letter + 1);
                    dueError(ahead[i] + word + " 1 1;", GateCounter.SYNTAX, ahead[i].length());
                }
                String[] instead = {";", "x;", "?1;", "0000001;", "-;", "--1;"};
                for (String wrong : instead) {
                    String text = ahead[i] + known[i] + " ";
                    boolean signed = wrong.startsWith("-") && (i == 1 || i == 2);
                    dueError(text + wrong, GateCounter.SYNTAX, text.length() + (signed ? 1 : 0));
                }
            }
            String[] instead = {";", "x;", "-1;", "?1;", "0000001;"};
            for (String wrong : instead) {
                dueError("clock 10;signal 1 " + wrong, GateCounter.SYNTAX, 18);
            }
        });
        holds("a number that is too long", () -> {
            dueError("clock 10000000;", GateCounter.SYNTAX, 6);
            dueError("clock 10 drift -0000001;", GateCounter.SYNTAX, 16);
            dueError("clock 10;signal 1 0000001;", GateCounter.SYNTAX, 18);
            dueError("clock 10;gate 4294967297;", GateCounter.SYNTAX, 14);
        });
        holds("a byte that belongs to no token", () -> {
            for (int sign = 0; sign < 256; sign++) {
                boolean known = sign >= 'a' && sign <= 'z' || sign >= '0' && sign <= '9' || sign == ';' || sign == '-' || sign == ' ' || sign == '\n';
                if (!known) {
                    dueError("clock 10; " + (char) sign, GateCounter.SYNTAX, 10);
                }
            }
        });
        holds("or the end of the text where more is required.", () -> {
            String[] texts = {"clock", "clock 10", "clock 10 drift", "clock 10 drift -", "clock 10 drift 5", "clock 10 age", "clock 10 age -",
                "clock 10 age 1", "clock 10;prescale", "clock 10;prescale 2", "clock 10;gate", "clock 10;gate 5", "clock 10;periods",
                "clock 10;periods 5", "clock 10;signal", "clock 10;signal 5", "clock 10;signal 5 5"};
            for (String text : texts) {
                dueError(text, GateCounter.SYNTAX, text.length());
            }
        });
        holds("The offset is that of the first byte of the token, or the length of the text.", () -> {
            dueError("clock 10;  foo;", GateCounter.SYNTAX, 11);
            dueError("clock  \n0000010;", GateCounter.SYNTAX, 8);
            dueError(" \n ", GateCounter.SYNTAX, 3);
            dueError("clock 10 \n ", GateCounter.SYNTAX, 11);
            // At its greatest: a full buffer, whose last byte is 499.
            GateCounter x = filled(500);
            due("-1 1 500", () -> x.loadCounter() + " " + x.errorCode() + " " + x.errorOffset());
            GateCounter y = filled(480);
            y.appendInput(0x636c6f63, 0x6b203130, 0x3b202020, 0x20202020, 0x2020203f);
            due("-1 1 499", () -> y.loadCounter() + " " + y.errorCode() + " " + y.errorOffset());
        });
        holds("OUT_OF_RANGE: a number that is out of its range (of S at the number), a P that may not be.", () -> {
            dueError("clock 10 drift -  100;", GateCounter.OUT_OF_RANGE, 18);
            dueError("clock 10 age -\n2;", GateCounter.OUT_OF_RANGE, 15);
            dueError("clock 10;prescale   3", GateCounter.OUT_OF_RANGE, 20);
        });
        holds("REPEATED: the first word of prescale, gate or periods told again.", () -> {
            dueError("clock 10;prescale 2; prescale", GateCounter.REPEATED, 21);
            dueError("clock 10;gate 5;\ngate 0;", GateCounter.REPEATED, 17);
            dueError("clock 10;periods 5;periods;", GateCounter.REPEATED, 19);
        });
        holds("ORDER: the time of a segment that is not greater than that of the one before it.", () -> {
            dueError("clock 10;signal 0 1;signal 0 1;", GateCounter.ORDER, 27);
            dueError("clock 10;signal 5 1;signal 5 10000;", GateCounter.ORDER, 27);
            dueError("clock 10;signal 5 1;signal 4", GateCounter.ORDER, 27);
            dueError("clock 10;signal 5 1;signal 9 1;signal 6 1;", GateCounter.ORDER, 38);
        });
        holds("TOO_MANY: the first word of a 9th segment.", () -> {
            dueError("clock 10;" + segments(8) + "signal", GateCounter.TOO_MANY, 9 + 8 * 11);
            dueError("clock 10;" + segments(8) + "\n signal 1 1;", GateCounter.TOO_MANY, 9 + 8 * 11 + 2);
        });
    }

    private static void whatErrorsAndLoadsChange() {
        holds("An error changes nothing but the input buffer and the reported error.", () -> {
            String[] texts = {"", "clock 99 drift 5 age 1", "clock 99;prescale 8;gate 6;periods 7;signal 1 2;signal 1 2;",
                "clock 99;" + segments(9), "clock 99;gate 1;gate"};
            for (String text : texts) {
                GateCounter x = lived();
                String before = held(x);
                int output = x.outputByte(0);
                append(x, text);
                due(-1, () -> x.loadCounter());
                due(before, () -> held(x));
                due(GateCounter.NO_CLOCK + " 0 1 " + output, () -> x.reason() + " " + x.cause() + " " + x.chosenBy() + " " + x.outputByte(0));
                due(120, () -> x.restoreState());
                GateCounter y = lived();
                append(y, text);
                y.loadCounter();
                due(2, () -> y.undo());
            }
        });
        holds("A successful load replaces everything but the output, the reasons and chosenBy(): the time is 0, CORRECTION is 0, "
            + "nothing was counted or measured, nothing can be undone, and no state is saved.", () -> {
            GateCounter x = lived();
            x.set(6, 7);
            x.setPrescale(4);
            x.runTo(600);
            x.calibrate(3);
            String text = "clock 99 age -1;gate 3;signal 0 9;";
            append(x, text);
            due(1, () -> x.loadCounter());
            due(held(counter(text)), () -> held(x));
            due("0 -1 4 0 1 10,0,0,1,5,3,0", () -> told(x));
            due(NONE_SUCH, () -> x.undo());
            due(NONE_SUCH, () -> x.restoreState());
            due(held(counter(text)), () -> held(x));
            // What the text does not tell is not what it was, but what it is without it.
            GateCounter y = counter("clock 99 drift 5 age -1;prescale 4;gate 6;periods 7;signal 1 2;signal 3 4;");
            y.set(6, 8);
            append(y, "clock 77;");
            due("0 77,0,0,1,10,1,0", () -> y.loadCounter() + " " + settings(y));
            due(held(counter("clock 77;")), () -> held(y));
        });
    }

    private static void newObject() {
        holds("Creates a counter as by the text \"clock 10;\", with an empty input buffer.", () -> {
            due(held(counter("clock 10;")), () -> held(new GateCounter()));
            due(told(counter("clock 10;")), () -> told(new GateCounter()));
            due(false, () -> new GateCounter().truncateInput(1));
            due(true, () -> new GateCounter().truncateInput(0));
            due(20, () -> new GateCounter().appendInput(0, 0, 0, 0, 0));
        });
    }

    private static void appending() {
        holds("the four bytes of each parameter, the most significant byte first.", () -> {
            GateCounter x = new GateCounter();
            x.appendInput(0x636c6f63, 0x6b203132, 0x3b676174, 0x6520333b, 0x20202020);
            due("0 12,0,0,1,3,1,0", () -> x.loadCounter() + " " + settings(x));
            // Bytes above 127 and those of numbers below 0.
            int[] words = {0x20202020, 0x20202020, 0x20202020, 0x20202020, 0x20202020};
            int[] wrong = {0xff202020, 0x20ff2020, 0x2020ff20, 0x202020ff, 0x80202020};
            for (int i = 0; i < 5; i++) {
                GateCounter y = new GateCounter();
                int[] given = words.clone();
                given[i] = wrong[i];
                y.appendInput(given[0], given[1], given[2], given[3], given[4]);
                y.loadCounter();
                due(i == 4 ? 16 : 5 * i, () -> y.errorOffset());
            }
        });
        holds("-1, with no change, if it would exceed 500.", () -> {
            GateCounter x = filled(480);
            x.truncateInput(461);
            due(481, () -> x.appendInput(0x20202020, 0x20202020, 0x20202020, 0x20202020, 0x3f3f3f3f));
            leaves(x, -1, () -> x.appendInput(0, 0, 0, 0, 0));
            due(false, () -> x.truncateInput(482));
            due(true, () -> x.truncateInput(481));
            x.loadCounter();
            due(477, () -> x.errorOffset());
            GateCounter y = filled(500);
            leaves(y, -1, () -> y.appendInput(0x3f3f3f3f, 0, 0, 0, 0));
            y.loadCounter();
            due(500, () -> y.errorOffset());
            // Just at 500 it does not exceed it.
            GateCounter z = filled(480);
            due(500, () -> z.appendInput(0, 0, 0, 0, 0));
        });
    }

    private static void truncating() {
        holds("false, with no change, if length is negative or greater than the current length.", () -> {
            int[] wrong = {Integer.MIN_VALUE, -1, 12, 20, 500, Integer.MAX_VALUE};
            for (int length : wrong) {
                GateCounter x = new GateCounter();
                append(x, "clock 77;;;");
                leaves(x, false, () -> x.truncateInput(length));
                due(true, () -> x.truncateInput(11));
            }
            GateCounter x = new GateCounter();
            append(x, "clock 77;;;");
            due(true, () -> x.truncateInput(11));
            due(true, () -> x.truncateInput(9));
            due(0, () -> x.loadCounter());
            due(77, () -> x.setting(0));
            due(true, () -> x.truncateInput(0));
            due(false, () -> x.truncateInput(1));
        });
    }

    private static void loading() {
        holds("empties the buffer, whether the load succeeds or not.", () -> {
            String[] texts = {"clock 10;", "clock 9;", "clock", "?"};
            for (String text : texts) {
                GateCounter x = new GateCounter();
                append(x, text);
                x.loadCounter();
                due(false, () -> x.truncateInput(1));
                due(20, () -> x.appendInput(0, 0, 0, 0, 0));
            }
        });
        holds("Returns the number of segments; -1 if there is an error.", () -> {
            for (int number = 0; number <= 8; number++) {
                GateCounter x = new GateCounter();
                append(x, "clock 10;" + segments(number));
                due(number, () -> x.loadCounter());
            }
            due(-1, () -> new GateCounter().loadCounter());
        });
    }

    private static void codes() {
        holds("NO_ERROR if that call succeeded or there was no call.", () -> {
            due(0, () -> new GateCounter().errorCode());
            GateCounter x = new GateCounter();
            x.loadCounter();
            due(GateCounter.SYNTAX, () -> x.errorCode());
            append(x, "clock 9;");
            due(GateCounter.SYNTAX, () -> x.errorCode());
            x.loadCounter();
            due(GateCounter.OUT_OF_RANGE, () -> x.errorCode());
            append(x, "clock 10;");
            x.loadCounter();
            due(GateCounter.NO_ERROR, () -> x.errorCode());
        });
        section("Promise 6");
        holds("-1 if errorCode() is NO_ERROR.", () -> {
            due(-1, () -> new GateCounter().errorOffset());
            GateCounter x = new GateCounter();
            x.loadCounter();
            due(0, () -> x.errorOffset());
            append(x, "clock 10;");
            due(0, () -> x.errorOffset());
            x.loadCounter();
            due(-1, () -> x.errorOffset());
        });
    }
}
