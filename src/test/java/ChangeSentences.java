/** Ordinary sentences of the promises about the measurements that are kept, changes, the output and saving: promises 39 to 63. */
final class ChangeSentences extends Sentences {
    private ChangeSentences() {
    }

    static void all() {
        kept();
        shares();
        passing();
        measuring();
        settings();
        segments();
        dropping();
        printing();
        saving();
    }

    /** A change can be undone, also one that puts the oldest of eight away. */
    private static void isChange(String promise, Call change) {
        section(promise);
        holds("This is a change.", () -> {
            GateCounter x = lived();
            String before = held(x);
            due(false, () -> change.of(x, 0).equals(-1));
            due(4, () -> x.count(8));
            due(3, () -> x.undo());
            due(before, () -> held(x));
            // It is kept among others, the oldest of which it puts away.
            GateCounter y = lived();
            for (int i = 0; i < 8; i++) {
                y.set(6, i);
            }
            String ahead = held(y);
            change.of(y, 0);
            due(8, () -> y.count(8));
            y.undo();
            due(ahead.replace(" 8 |", " 7 |"), () -> held(y));
        });
    }

    private static GateCounter three() {
        GateCounter x = counter(SEVEN);
        x.gate();
        x.set(6, 10);
        x.period();
        x.set(4, 15);
        x.gate();
        return x;
    }

    private static void kept() {
        section("Promise 39");
        holds("measurement: number of a measurement", () -> {
            // 7 edges of 5 clock edges, 3 PERIODs of 2 clock edges, 21 edges of 15 clock edges; with 0, and with 99.
            GateCounter x = three();
            due("140000 150000 140000", () -> x.valueWith(0, 0) + " " + x.valueWith(1, 0) + " " + x.valueWith(2, 0));
            due("127388 136487 127388", () -> x.valueWith(0, 99) + " " + x.valueWith(1, 99) + " " + x.valueWith(2, 99));
        });
        holds("Returns the value.", () -> {
            // With the CORRECTION by which it was made it is the value as it was made.
            GateCounter x = three();
            for (int i = 0; i < 3; i++) {
                int number = i;
                due(x.measurement(number, 4), () -> x.valueWith(number, x.measurement(number, 7)));
            }
        });
        section("Promise 40");
        holds("Returns the mean value of the measurements that are kept: their sum divided by their number, both converted to double.", () -> {
            // 140000, 148514 and 138613, as they were made.
            GateCounter x = three();
            x.set(6, 0);
            x.setPrescale(2);
            x.set(5, 9);
            due(427127.0 / 3.0, () -> x.meanValue());
            x.drop(0);
            due(143563.5, () -> x.meanValue());
            x.drop(0);
            due(138613.0, () -> x.meanValue());
        });
        section("Promise 44");
        holds("Finds the measurement that is kept with the most digits.", () -> {
            GateCounter x = three();
            due(2, () -> x.sharpest());
            x.set(4, 1);
            x.gate();
            due(2, () -> x.sharpest());
            // Of 7, 2 and 1 edges or clock edges the latest one, then a GATE of 200 with 286 or 285 edges.
            x.drop(2);
            due(2, () -> x.sharpest());
            x.set(4, 200);
            x.gate();
            x.set(4, 2);
            x.gate();
            due(3, () -> x.sharpest());
        });
    }

    private static void shares() {
        section("Promise 42");
        holds("Returns how many ticks a clock edge took so far: the time of the latest clock edge and the number of clock edges, both converted to "
            + "float and divided.", () -> {
            int[] drifts = {-99, -50, 0, 50, 99};
            for (int drift : drifts) {
                for (int k = 1; k <= 300; k += 23) {
                    // The k-th one comes at k times STEP and all that was carried by then; what passes behind it does not count.
                    int edges = k;
                    int latest = 10 * k + Math.floorDiv(drift * (k - 1), 1000);
                    GateCounter x = counter("clock 10 drift " + drift + "; signal 0 3;");
                    x.runTo(latest + 8);
                    due((float) latest / (float) edges, () -> x.tickShare());
                }
            }
            // With AGE: 990 and 11 carry once behind the 100th, and what is left and 99 times 11 once more up to the 200th.
            GateCounter y = counter("clock 10 drift 10 age 1;");
            y.runTo(2011);
            due(2002.0f / 200.0f, () -> y.tickShare());
        });
    }

    private static void passing() {
        section("Promise 45");
        holds("Lets ticks pass.", () -> {
            GateCounter x = counter("clock 10; prescale 2; signal 4 7; signal 30 2;");
            x.run(29);
            due("29 2 3 1 2 1 0 0 1 ", () -> numbers(x));
            x.run(1);
            due("30 3 3 1 2 2 0 0 2 ", () -> numbers(x));
            x.run(100000);
            due("100030 10003 50003 25001 2 2 0 0 3 ", () -> numbers(x));
        });
        isChange("Promise 45", (x, none) -> x.run(7));
        isChange("Promise 46", (x, none) -> x.runTo(999));
        isChange("Promise 47", (x, none) -> x.waitOutput());
    }

    private static void measuring() {
        section("Promise 48");
        holds("Measures by gate.", () -> {
            GateCounter x = counter(SEVEN);
            x.gate();
            due("60 6 7 7 1 1 1 1 1 ", () -> numbers(x));
            due("0 10 60 7 140000 1 5 0 ", () -> measured(x, 0));
        });
        isChange("Promise 48", (x, none) -> x.gate());
        section("Promise 49");
        holds("Measures by period.", () -> {
            GateCounter x = counter(SEVEN);
            x.period();
            due("32 3 4 4 1 1 1 1 1 ", () -> numbers(x));
            due("1 11 32 2 150000 1 3 0 ", () -> measured(x, 0));
        });
        isChange("Promise 49", (x, none) -> x.period());
        section("Promise 50");
        holds("Makes a choice.", () -> {
            GateCounter x = counter(SEVEN);
            x.choose();
            due("60 6 7 7 1 1 1 1 1 ", () -> numbers(x));
            due("0 10 60 7 140000 1 5 0 ", () -> measured(x, 0));
            // 12 PERIODs from 11 to 95, with 8 clock edges, are more than 7 edges.
            GateCounter y = counter(SEVEN);
            y.set(5, 12);
            y.choose();
            due("95 9 13 13 1 1 1 1 2 ", () -> numbers(y));
            due("1 11 95 8 150000 1 12 0 ", () -> measured(y, 0));
        });
        isChange("Promise 50", (x, none) -> x.choose());
        section("Promise 51");
        holds("Makes a calibration.", () -> {
            // 7 clock edges in 75 ticks: 75000 / 70 is 1071.
            GateCounter x = counter(SEVEN);
            due("170 71", () -> x.calibrate(75) + " " + x.setting(6));
            due("75 7 10 10 1 1 0 0 1 ", () -> numbers(x));
        });
        isChange("Promise 51", (x, none) -> x.calibrate(75));
    }

    private static void settings() {
        isChange("Promise 52", (x, none) -> x.setPrescale(16));
        holds("Returns P before.", () -> {
            GateCounter x = counter("clock 10; prescale 8;");
            due("8 2 16", () -> x.setPrescale(2) + " " + x.setPrescale(16) + " " + x.setPrescale(4));
        });
        section("Promise 53");
        holds("Sets a setting;", () -> {
            int[] whats = {1, 2, 4, 5, 6};
            int[] values = {-45, 1, 777, 66, 33};
            String[] settings = {"10,-45,0,1,5,3,0", "10,0,1,1,5,3,0", "10,0,0,1,777,3,0", "10,0,0,1,5,66,0", "10,0,0,1,5,3,33"};
            for (int i = 0; i < whats.length; i++) {
                GateCounter x = counter(SEVEN);
                x.run(50);
                x.set(whats[i], values[i]);
                String want = settings[i];
                due(want, () -> settings(x));
                // Nothing else is different.
                due("50 5 6 6 1 1 0 0 2 ", () -> numbers(x));
                due("60 0 7 53 0 -1 ", () -> states(x));
            }
        });
        isChange("Promise 53", (x, none) -> x.set(1, 9));
        holds("Returns the setting before.", () -> {
            GateCounter x = counter("clock 10 drift -5 age 1; gate 77; periods 88;");
            x.set(6, 9);
            due("-5 1 77 88 9", () -> x.set(1, 1) + " " + x.set(2, 0) + " " + x.set(4, 2) + " " + x.set(5, 3) + " " + x.set(6, 4));
            due("1 0 2 3 4", () -> x.set(1, 0) + " " + x.set(2, 0) + " " + x.set(4, 1) + " " + x.set(5, 1) + " " + x.set(6, 0));
        });
    }

    private static void segments() {
        section("Promise 54");
        holds("Adds a segment.", () -> {
            GateCounter x = counter(SEVEN);
            x.runTo(20);
            x.addSegment(27, 3);
            x.addSegment(40, 0);
            due("4/7* 27/3 40/0", () -> signal(x));
            // Edges at 25, 30, 33, 36 and 39.
            due("25 5", () -> x.nextOutput() + " " + x.edgesIn(1000));
            due("20 2 2 2 3 1 0 0 3 ", () -> numbers(x));
            due("30 0 7 25 0 27 ", () -> states(x));
        });
        isChange("Promise 54", (x, none) -> x.addSegment(501, 9));
        holds("Returns its number.", () -> {
            GateCounter x = new GateCounter();
            for (int number = 0; number < 8; number++) {
                int want = number;
                due(want, () -> x.addSegment(10 + want, want));
                due(10 + want + " " + want, () -> x.segment(want, 0) + " " + x.segment(want, 1));
            }
        });
        isChange("Promise 55", (x, none) -> x.dropSegment());
        holds("Returns how many segments there are then.", () -> {
            GateCounter x = counter("clock 10; signal 0 1; signal 5 2; signal 9 3; signal 12 4;");
            due("3 3", () -> x.dropSegment() + " " + x.count(4));
            due("2 2", () -> x.dropSegment() + " " + x.count(4));
            due("0/1 5/2", () -> signal(x));
            due("1 0 0", () -> x.dropSegment() + " " + x.dropSegment() + " " + x.count(4));
        });
    }

    private static void dropping() {
        isChange("Promise 56", (x, none) -> x.drop(1));
        holds("measurement: number of a measurement Returns how many are kept then.", () -> {
            String[] made = {"0 10 60 7 140000 1 5 0 ", "1 60 81 2 148514 1 3 10 ", "0 90 240 21 138613 2 15 10 "};
            for (int dropped = 0; dropped < 3; dropped++) {
                GateCounter x = three();
                int which = dropped;
                due("2 2 3", () -> x.drop(which) + " " + x.count(7) + " " + x.count(6));
                due(made[which == 0 ? 1 : 0], () -> measured(x, 0));
                due(made[which == 2 ? 1 : 2], () -> measured(x, 1));
                due("1 0 0", () -> x.drop(1) + " " + x.drop(0) + " " + x.count(7));
            }
        });
    }

    private static void printing() {
        section("Promise 58");
        holds("measurement: number of a measurement", () -> {
            GateCounter x = three();
            due("g7:1xxxxx", () -> text(x, x.printMeasurement(0)));
            due("p2:1xxxxx", () -> text(x, x.printMeasurement(1)));
            due("g21:13xxxx", () -> text(x, x.printMeasurement(2)));
        });
        section("Promise 59");
        holds("Returns the number of bytes.", () -> {
            GateCounter x = counter("clock 123 drift -4; prescale 16;");
            due(18, () -> x.printSettings());
            due("123,-4,0,16,10,1,0 -1", () -> text(x, 18) + " " + x.outputByte(18));
        });
        section("Promise 60");
        holds("Returns the number of bytes.", () -> {
            GateCounter x = counter("clock 10; signal 0 1; signal 55 4321;");
            due(11, () -> x.printSignal());
            due("0/1 55/4321 -1", () -> text(x, 11) + " " + x.outputByte(11));
            x.run(1);
            due(12, () -> x.printSignal());
            due("0/1* 55/4321 -1", () -> text(x, 12) + " " + x.outputByte(12));
            due(1, () -> new GateCounter().printSignal());
        });
        section("Promise 61");
        holds("Returns a byte of the output. index: index of the byte, from 0", () -> {
            GateCounter x = new GateCounter();
            x.printSettings();
            String output = "10,0,0,1,10,1,0";
            for (int i = 0; i < output.length(); i++) {
                int index = i;
                due((int) output.charAt(i), () -> x.outputByte(index));
            }
            // It stays until something else is written.
            x.run(5);
            x.set(4, 99);
            due((int) '1', () -> x.outputByte(9));
            x.printSignal();
            due((int) '-', () -> x.outputByte(0));
        });
    }

    private static void saving() {
        section("Promise 62");
        holds("Returns the time.", () -> {
            GateCounter x = new GateCounter();
            due(0, () -> x.saveState());
            x.run(123);
            due("123 123", () -> x.saveState() + " " + x.count(0));
        });
        section("Promise 63");
        holds("Returns the time.", () -> {
            GateCounter x = new GateCounter();
            x.run(123);
            x.saveState();
            x.run(1000);
            due("123 123", () -> x.restoreState() + " " + x.count(0));
        });
    }
}
