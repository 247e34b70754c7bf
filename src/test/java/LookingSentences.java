/** Ordinary sentences of the terms, and of the promises about the input and about how things are: promises 2 to 14. */
final class LookingSentences extends Sentences {
    private LookingSentences() {
    }

    static void all() {
        section("Terms");
        terms();
        input();
        errors();
        settingsAndStates();
        segmentsAndMeasurements();
        reasons();
    }

    private static void terms() {
        holds("Three things come at times: segments of the signal, clock edges, and edges", () -> {
            // Segments at 4 and 40; clock edges at 10, 20, 30 and 40; edges at 11, 18, 25, 32, 39 and 43.
            GateCounter x = counter("clock 10 drift 5; signal 4 7; signal 40 3; gate 5; periods 3;");
            x.run(43);
            due("43 4 6 6 2 2 0 0 1 ", () -> numbers(x));
            due("50 20 3 46 0 -1 ", () -> states(x));
            // Where none of them comes, time alone passes.
            x.run(2);
            due("45 4 6 6 2 2 0 0 2 ", () -> numbers(x));
            due("50 20 3 46 0 -1 ", () -> states(x));
            due("10,5,0,1,5,3,0", () -> settings(x));
        });
        holds("Behind each edge the next one is PERIOD later.", () -> {
            int[] periods = {1, 2, 7, 10, 100, 9999};
            for (int period : periods) {
                GateCounter x = counter("clock 10; signal 3 " + period + ";");
                for (int edge = 1; edge <= 5; edge++) {
                    int time = 3 + edge * period;
                    String want = edge + " " + (time + period);
                    x.runTo(time);
                    due(want, () -> x.count(2) + " " + x.state(3));
                }
            }
        });
        holds("The value of a measurement is the number of edges in 1000000 ticks:", () -> {
            // With PERIODs that divide a million both tell how many edges do come up to that time.
            int[] periods = {1, 4, 10, 25, 125, 1000};
            for (int period : periods) {
                String text = "clock 10; gate 1000; periods 100; signal 0 " + period + ";";
                int edges = 1000000 / period;
                due(edges + " " + edges, () -> counter(text).gate() + " " + counter(text).period());
                due(edges, () -> counter(text).runTo(1000000));
            }
            // A million divided by 7 is 142857.14; by gate there are 14284 edges, by period 700 clock edges.
            GateCounter x = counter("clock 10; gate 9999; periods 999; signal 0 7;");
            due("142854 142714", () -> x.byGate(4) + " " + x.byPeriod(4));
        });
    }

    private static void input() {
        section("Promise 2");
        holds("Appends 20 bytes to the input buffer:", () -> {
            // One text of two parts, each of them of 20 bytes: clock 10 drift -7 ag, e 1;prescale 8;gate.
            GateCounter x = new GateCounter();
            x.appendInput(0x636c6f63, 0x6b203130, 0x20647269, 0x6674202d, 0x37206167);
            x.appendInput(0x6520313b, 0x70726573, 0x63616c65, 0x20383b20, 0x67617465);
            due(false, () -> x.truncateInput(41));
            x.appendInput(0x2034353b, 0x20202020, 0x20202020, 0x20202020, 0x20202020);
            due("0 10,-7,1,8,45,1,0", () -> x.loadCounter() + " " + settings(x));
        });
        holds("a: first four bytes b: next four bytes c: next four bytes d: next four bytes e: last four bytes", () -> {
            // The byte that no token has is the error's offset, wherever it stands.
            for (int at = 0; at < 20; at++) {
                int[] words = {0x20202020, 0x20202020, 0x20202020, 0x20202020, 0x20202020};
                words[at / 4] += ('?' - ' ') << 8 * (3 - at % 4);
                GateCounter x = new GateCounter();
                x.appendInput(words[0], words[1], words[2], words[3], words[4]);
                due(-1, () -> x.loadCounter());
                due(at, () -> x.errorOffset());
            }
        });
        holds("Returns the new length of the input buffer;", () -> {
            GateCounter x = new GateCounter();
            due("20 40 60", () -> x.appendInput(0, 0, 0, 0, 0) + " " + x.appendInput(-1, -1, -1, -1, -1) + " " + x.appendInput(1, 2, 3, 4, 5));
            x.truncateInput(7);
            due("27 47", () -> x.appendInput(0, 0, 0, 0, 0) + " " + x.appendInput(0, 0, 0, 0, 0));
            x.loadCounter();
            due(20, () -> x.appendInput(0, 0, 0, 0, 0));
        });
        section("Promise 3");
        holds("Truncates the input buffer. length: new length Returns true;", () -> {
            // What is cut away is told no more, and what is appended stands behind what is left.
            GateCounter x = new GateCounter();
            append(x, "clock 10;gate 77;");
            due(true, () -> x.truncateInput(9));
            due(0, () -> x.loadCounter());
            due("10,0,0,1,10,1,0", () -> settings(x));
            append(x, "clock 10;gate 77;gate 78;");
            due("true 32", () -> x.truncateInput(12) + " " + x.appendInput(0x6520383b, 0x20202020, 0x20202020, 0x20202020, 0x20202020));
            due(0, () -> x.loadCounter());
            due("10,0,0,1,8,1,0", () -> settings(x));
        });
        section("Promise 4");
        holds("Loads a setup from the input buffer and empties the buffer,", () -> {
            GateCounter x = new GateCounter();
            append(x, "clock 25 drift -3 age -1; prescale 16; periods 999; gate 9999; signal 0 9999; signal 999999 0;");
            due(2, () -> x.loadCounter());
            due("25,-3,-1,16,9999,999,0", () -> settings(x));
            due("0/9999 999999/0", () -> signal(x));
            due("25 0 0 -1 0 0 ", () -> states(x));
            due("-1 1 0", () -> x.loadCounter() + " " + x.errorCode() + " " + x.errorOffset());
        });
    }

    private static void errors() {
        String[] texts = {"clock 10;", "clock;", "clock 9;", "clock 10;gate 1;gate 1;", "clock 10;signal 5 1;signal 5 1;",
            "clock 10;signal 1 1;signal 2 1;signal 3 1;signal 4 1;signal 5 1;signal 6 1;signal 7 1;signal 8 1;signal 9 1;"};
        int[] offsets = {-1, 5, 6, 16, 27, 97};
        section("Promise 5");
        holds("Returns the error of the latest call of loadCounter. Returns an error code;", () -> {
            GateCounter x = new GateCounter();
            for (int first = 0; first < texts.length; first++) {
                for (int code = 0; code < texts.length; code++) {
                    append(x, texts[code]);
                    x.loadCounter();
                    due(code, () -> x.errorCode());
                }
                append(x, texts[first]);
                x.loadCounter();
                due(first, () -> x.errorCode());
            }
            // It stays behind other calls, of the input too.
            append(x, "clock 10;");
            x.run(1);
            due(5, () -> x.errorCode());
        });
        section("Promise 6");
        holds("Returns the offset of the error of the latest call of loadCounter. Returns the offset;", () -> {
            GateCounter x = new GateCounter();
            for (int i = texts.length - 1; i >= 0; i--) {
                append(x, texts[i]);
                x.loadCounter();
                due(offsets[i], () -> x.errorOffset());
            }
            append(x, texts[5]);
            x.loadCounter();
            append(x, "clock 10;");
            x.run(1);
            due(97, () -> x.errorOffset());
        });
    }

    private static void settingsAndStates() {
        section("Promise 8");
        holds("Returns a setting. what: 0 STEP, 1 DRIFT, 2 AGE, 3 P, 4 GATE, 5 PERIODS, 6 CORRECTION Returns the setting.", () -> {
            GateCounter x = counter("clock 123 drift 45 age -1; prescale 8; gate 67; periods 89;");
            x.set(6, -12);
            int[] settings = {123, 45, -1, 8, 67, 89, -12};
            for (int what = 0; what <= 6; what++) {
                int which = what;
                due(settings[what], () -> x.setting(which));
            }
            // DRIFT is what AGE made of it, and CORRECTION what a calibration did.
            x.runTo(12400);
            x.calibrate(1230);
            due("44 0", () -> x.setting(1) + " " + x.setting(6));
        });
        section("Promise 9");
        holds("Returns how things are now. what: 0 the time of the next clock edge, 1 REST, 2 PERIOD, 3 the time of the next edge (NONE if it is "
            + "silent), 4 the count of the prescaler, 5 the time of the next segment (NONE without one) Returns the number.", () -> {
            GateCounter x = counter("clock 50 drift -7; prescale 8; signal 4 9; signal 300 5;");
            due("50 0 0 -1 0 4 ", () -> states(x));
            // Clock edges at 50, 99 and 149: each takes 7 away, and the first of them carries. Edges at 13, 22 and on, the 16th at 148.
            x.runTo(149);
            due("199 979 9 157 0 300 ", () -> states(x));
            x.runTo(157);
            due("199 979 9 166 1 300 ", () -> states(x));
            x.runTo(300);
            due("-1", () -> x.state(5));
            due("5 305", () -> x.state(2) + " " + x.state(3));
        });
    }

    private static void segmentsAndMeasurements() {
        section("Promise 10");
        holds("Returns a number of a segment. segment: number of a segment, from 0 what: 0 its time, 1 its PERIOD Returns the number.", () -> {
            GateCounter x = counter("clock 10; signal 3 4; signal 50 60; signal 999999 0;");
            due("3 4 50 60 999999 0", () -> segments(x, 3));
            // They keep their numbers as they come, and one that is added gets the next number.
            x.runTo(70);
            x.dropSegment();
            x.addSegment(800, 9);
            due("3 4 50 60 800 9", () -> segments(x, 3));
        });
        section("Promise 11");
        holds("Returns a number of a measurement that is kept. measurement: number of a measurement what: 0 its kind (0 by gate, 1 by period), 1 the "
            + "time at which it opened or began, 2 that at which it closed or ended, 3 its count, 4 its value as it was made, 5 its digits, 6 the "
            + "GATE, or PERIODS, by which it was made, 7 CORRECTION as it was made Returns the number.", () -> {
            GateCounter x = counter(SEVEN);
            x.gate();
            x.set(6, 10);
            // From the edge of 60, which is still to come, to that of 81: the clock edges of 70 and 80, and 3000000000 / 20200.
            x.period();
            x.set(4, 15);
            // From 90 to 240: edges at 95 to 235, 21 of them, and 21000000000 / 151500.
            x.gate();
            String[] made = {"0 10 60 7 140000 1 5 0 ", "1 60 81 2 148514 1 3 10 ", "0 90 240 21 138613 2 15 10 "};
            for (int i = 0; i < 3; i++) {
                int number = i;
                due(made[i], () -> measured(x, number));
            }
            // They tell how it was made, whatever is set behind.
            x.set(6, -50);
            x.set(4, 1);
            x.set(5, 1);
            x.setPrescale(16);
            for (int i = 0; i < 3; i++) {
                int number = i;
                due(made[i], () -> measured(x, number));
            }
        });
    }

    private static String segments(GateCounter x, int number) {
        StringBuilder text = new StringBuilder();
        for (int i = 0; i < number; i++) {
            text.append(x.segment(i, 0)).append(' ').append(x.segment(i, 1)).append(' ');
        }
        return text.toString().strip();
    }

    private static void reasons() {
        section("Promise 12");
        holds("Returns the reason of the latest refusal.", () -> {
            GateCounter x = new GateCounter();
            x.period();
            due(GateCounter.SILENT, () -> x.reason());
            x.calibrate(9);
            due(GateCounter.NO_CLOCK, () -> x.reason());
            x.waitOutput();
            due(GateCounter.SILENT, () -> x.reason());
            x.runTo(2000000);
            x.gate();
            due(GateCounter.LATE, () -> x.reason());
            GateCounter y = counter("clock 10; signal 10 1;");
            y.period();
            due(GateCounter.SHORT, () -> y.reason());
        });
        section("Promise 13");
        holds("Returns the cause of the latest refusal of choose(): the reason of the measurement by period.", () -> {
            GateCounter x = counter("clock 10; signal 0 10; gate 3;");
            x.runTo(1999990);
            x.choose();
            due("1 1", () -> x.reason() + " " + x.cause());
            x.addSegment(1999992, 1);
            x.choose();
            due("1 3", () -> x.reason() + " " + x.cause());
            x.addSegment(1999993, 0);
            x.choose();
            due("1 2", () -> x.reason() + " " + x.cause());
        });
        section("Promise 14");
        holds("Returns by which choose() chose latest.", () -> {
            // By gate 7; by period 2 and 8 with 3 and 12 of them.
            GateCounter x = counter(SEVEN);
            x.choose();
            due("1 0", () -> x.chosenBy() + " " + x.measurement(0, 0));
            x.undo();
            x.set(5, 12);
            x.choose();
            due("2 1", () -> x.chosenBy() + " " + x.measurement(0, 0));
            // Other measurements, undoing and restoring leave it.
            x.undo();
            x.saveState();
            x.gate();
            x.period();
            x.restoreState();
            due(2, () -> x.chosenBy());
        });
    }
}
