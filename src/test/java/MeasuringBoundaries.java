/** Boundary cases of measurements, refusals, choices and calibrations, and of the promises that make them. */
final class MeasuringBoundaries extends Sentences {
    private MeasuringBoundaries() {
    }

    static void all() {
        section("Terms");
        gatesAndPeriods();
        valuesAndDigits();
        refusals();
        choices();
        calibrations();
        keeping();
        measuring();
        reasons();
        choosing();
        calibrating();
    }

    private static void gatesAndPeriods() {
        holds("A gate opens with the next clock edge and closes with the GATE-th clock edge behind that one; its count is the number of outputs "
            + "between (what comes behind the one and ahead of the other).", () -> {
            // The edge of the opening's time comes behind it, and that of the closing's time behind that.
            due("0 10 40 3 100000 1 3 0 ", () -> byGate("clock 10; signal 0 10; gate 3;"));
            due("0 10 20 1 100000 1 1 0 ", () -> byGate("clock 10; signal 0 10; gate 1;"));
            due("0 10 100000 9999 100000 4 9999 0 ", () -> byGate("clock 10; signal 0 10; gate 9999;"));
            // Those of 9 and 20 are outside, and that of 19 is inside.
            due("0 10 20 0 0 0 1 0 ", () -> byGate("clock 10; signal 1 8; signal 10 10; gate 1;"));
            due("0 10 20 1 100000 1 1 0 ", () -> byGate("clock 10; signal 1 8; signal 10 9; gate 1;"));
            // One that opened already is behind: at a clock edge's time the next one opens.
            GateCounter x = counter("clock 10; signal 0 10; gate 1;");
            x.runTo(10);
            x.gate();
            due("0 20 30 1 100000 1 1 0 ", () -> measured(x, 0));
        });
        holds("A measurement by period begins with the next output and ends with the PERIODS-th output behind that one; its count is the number "
            + "of clock edges between.", () -> {
            // The clock edge of the beginning's time comes ahead of it, and that of the ending's time ahead of that.
            due("1 10 40 3 100000 1 3 0 ", () -> byPeriod("clock 10; signal 0 10; periods 3;"));
            due("1 10 20 1 100000 1 1 0 ", () -> byPeriod("clock 10; signal 0 10; periods 1;"));
            due("1 10 10000 999 100000 3 999 0 ", () -> byPeriod("clock 10; signal 0 10; periods 999;"));
            due("1 9 20 2 50000 1 1 0 ", () -> byPeriod("clock 10; signal 0 9; signal 10 10; periods 1;"));
            due("1 10 29 1 100000 1 1 0 ", () -> byPeriod("clock 10; signal 0 10; signal 11 18; periods 1;"));
            // Of 16 edges one is an output.
            due("1 16 48 3 1066666 1 2 0 ", () -> byPeriod("clock 10; prescale 16; signal 0 1; periods 2;"));
            // Ahead of the beginning the prescaler counts on from what it has: 13 edges, with the 16th one at 48.
            GateCounter y = counter("clock 10; prescale 16; signal 0 3;");
            y.runTo(40);
            y.period();
            due("1 48 96 5 320000 1 1 0 ", () -> measured(y, 0));
            // One that came already is behind.
            GateCounter x = counter("clock 10; signal 0 10; periods 1;");
            x.runTo(10);
            x.period();
            due("1 20 30 1 100000 1 1 0 ", () -> measured(x, 0));
        });
        holds("With the closing, or the ending, nothing more comes: the time is that of it;", () -> {
            GateCounter x = counter("clock 10; signal 0 10; signal 40 7; gate 3;");
            x.gate();
            due("40 4 3 3 2 2 1 1 1 ", () -> numbers(x));
            due("50 0 7 47 0 -1 ", () -> states(x));
            GateCounter y = counter("clock 10; signal 0 10; signal 41 7; periods 3;");
            y.period();
            due("40 4 4 4 2 1 1 1 1 ", () -> numbers(y));
            due("50 0 10 50 0 41 ", () -> states(y));
        });
        holds("what else is to come at this time comes with the next call that lets time pass (also of no ticks, as runTo() and forecasts can), "
            + "and counts in that.", () -> {
            due("1 1 2", () -> closed().edgesIn(0) + " " + closed().outputsIn(0) + " " + closed().edgesIn(10));
            due("40 40 2", () -> closed().nextOutput() + " " + closed().timeOfEdge(1) + " " + closed().run(10));
            due("1 40", () -> closed().runTo(40) + " " + closed().waitOutput());
            GateCounter x = closed();
            x.runTo(40);
            due("40 4 4 0 50", () -> x.count(0) + " " + x.count(2) + " " + x.count(3) + " " + x.edgesIn(0) + " " + x.state(3));
            // The next gate opens behind it, and a measurement by period begins with it.
            GateCounter y = closed();
            y.gate();
            due("0 50 80 3 100000 1 3 0 ", () -> measured(y, 1));
            GateCounter z = closed();
            z.period();
            due("1 40 50 1 100000 1 1 0 ", () -> measured(z, 1));
            // A segment of a later time comes behind it, so it is not dropped.
            GateCounter w = closed();
            w.addSegment(41, 0);
            due(1, () -> w.edgesIn(100));
        });
    }

    /** Its gate closed at 40, and an edge of that time is still to come. */
    private static GateCounter closed() {
        GateCounter x = counter("clock 10; signal 0 10; gate 3;");
        x.gate();
        return x;
    }

    private static String byGate(String text) {
        GateCounter x = counter(text);
        x.gate();
        return measured(x, 0);
    }

    private static String byPeriod(String text) {
        GateCounter x = counter(text);
        x.period();
        return measured(x, 0);
    }

    private static void valuesAndDigits() {
        holds("PERIODS, or the count of a gate, times P times 1000000000, divided by the product of GATE (or the count of clock edges), STEP and "
            + "1000 plus CORRECTION, rounded down.", () -> {
            GateCounter x = counter(SEVEN);
            int[] corrections = {0, 99, -99, 1};
            int[] byGate = {140000, 127388, 155382, 139860};
            int[] byPeriod = {150000, 136487, 166481, 149850};
            for (int i = 0; i < 4; i++) {
                x.set(6, corrections[i]);
                int gate = byGate[i];
                int period = byPeriod[i];
                due(gate + " " + period, () -> x.byGate(4) + " " + x.byPeriod(4));
            }
            // 1000000000 / 1001 is 999000.999: 1 less than what 1001 divides.
            GateCounter y = counter("clock 10; signal 0 1; gate 1;");
            y.set(6, 1);
            due(999000, () -> y.byGate(4));
            // A product that no int holds: 6249 * 16 * 1000000000 / 99990000.
            due(999939, () -> counter("clock 10; prescale 16; signal 0 1; gate 9999;").byGate(4));
            // 999 * 16 * 1000000000 / (1599 * 10000).
            due(999624, () -> counter("clock 10; prescale 16; signal 0 1; periods 999;").byPeriod(4));
            due(100, () -> counter("clock 999; signal 0 9999; periods 100;").byPeriod(4));
            due(0, () -> new GateCounter().byGate(4));
        });
        holds("Its digits are the decimal digits of its count (0 for a count of 0).", () -> {
            due("0 0", () -> new GateCounter().byGate(3) + " " + new GateCounter().byGate(5));
            int[] counts = {1, 9, 10, 99, 100, 999, 1000, 9999};
            int[] digits = {1, 1, 2, 2, 3, 3, 4, 4};
            for (int i = 0; i < counts.length; i++) {
                int count = counts[i];
                int known = digits[i];
                due(count + " " + known, () -> {
                    GateCounter x = counter("clock 10; signal 0 10; gate " + count + ";");
                    return x.byGate(3) + " " + x.byGate(5);
                });
            }
            // With 100 edges a clock edge; a segment that comes a tick later takes one away.
            due("99999 5", () -> digitsOf("clock 100; signal 100 1; gate 1000;"));
            due("100000 6", () -> digitsOf("clock 100; signal 99 1; gate 1000;"));
            due("9999 4", () -> digitsOf("clock 100; signal 100 1; gate 100;"));
            due("10000 5", () -> digitsOf("clock 100; signal 99 1; gate 100;"));
        });
    }

    private static String digitsOf(String text) {
        GateCounter x = counter(text);
        return x.byGate(3) + " " + x.byGate(5);
    }

    private static void refusals() {
        holds("It is refused, and nothing changes: 1 late: by gate, it would close at a time above 2000000;", () -> {
            GateCounter x = counter("clock 10; signal 0 10; gate 5; periods 5;");
            x.runTo(1999949);
            due("100000 2000000", () -> x.gate() + " " + x.count(0));
            x.undo();
            x.runTo(1999950);
            refused(x, GateCounter.LATE, () -> x.gate());
            // It would not even open, or would just not close.
            x.runTo(1999990);
            x.set(4, 1);
            refused(x, GateCounter.LATE, () -> x.gate());
            x.runTo(2000000);
            refused(x, GateCounter.LATE, () -> x.gate());
            x.set(4, 9999);
            refused(x, GateCounter.LATE, () -> x.gate());
            // By a tick only, which DRIFT brings.
            GateCounter y = counter("clock 10; gate 100;");
            y.runTo(1998995);
            due(2000000, () -> y.byGate(2));
            y.set(1, 10);
            refused(y, GateCounter.LATE, () -> y.gate());
            y.set(1, 9);
            due(0, () -> y.gate());
        });
        holds("by period, it would not have ended with all that comes up to the time 2000000, and PERIOD is above 0 behind all that;", () -> {
            GateCounter x = counter("clock 10; signal 0 10; periods 5;");
            x.runTo(1999949);
            due("100000 2000000", () -> x.period() + " " + x.count(0));
            x.undo();
            x.runTo(1999950);
            refused(x, GateCounter.LATE, () -> x.period());
            x.runTo(2000000);
            refused(x, GateCounter.LATE, () -> x.period());
            // It does not even begin; silent now, but not behind all that comes.
            GateCounter y = counter("clock 10; periods 1;");
            y.addSegment(1999999, 2);
            refused(y, GateCounter.LATE, () -> y.period());
            GateCounter z = counter("clock 10; signal 0 10; signal 15 0; signal 999999 9999; periods 999;");
            z.runTo(20);
            refused(z, GateCounter.LATE, () -> z.period());
        });
        holds("2 silent: by period, likewise, but PERIOD is 0 then;", () -> {
            GateCounter x = new GateCounter();
            refused(x, GateCounter.SILENT, () -> x.period());
            // It begins, but does not end; PERIOD is above 0 now, but not behind all that comes.
            GateCounter y = counter("clock 10; signal 0 10; signal 40 0; periods 3;");
            y.runTo(5);
            refused(y, GateCounter.SILENT, () -> y.period());
            y.set(5, 2);
            due("100000 30", () -> y.period() + " " + y.count(0));
            GateCounter z = counter("clock 10; signal 0 10;");
            z.runTo(1999990);
            z.addSegment(1999999, 0);
            refused(z, GateCounter.SILENT, () -> z.period());
        });
        holds("3 short: by period, no clock edge is between.", () -> {
            GateCounter x = counter("clock 10; signal 10 2; periods 3;");
            // Outputs at 12, 14, 16 and 18; with the fourth period it ends at 20, and the clock edge of 20 is ahead of that.
            refused(x, GateCounter.SHORT, () -> x.period());
            x.set(5, 4);
            due("400000 1", () -> x.period() + " " + x.measurement(0, 3));
            // The clock edge of the beginning's time is ahead of it.
            GateCounter y = counter("clock 10; signal 0 10; signal 11 8; periods 1;");
            refused(y, GateCounter.SHORT, () -> y.period());
            // One that does not end is not short.
            GateCounter z = counter("clock 10; signal 10 2; signal 15 0; periods 3;");
            refused(z, GateCounter.SILENT, () -> z.period());
            // It begins with the edge of 2000000, which is still to come, and does not end.
            GateCounter w = counter("clock 10; signal 0 10; gate 1;");
            w.runTo(1999989);
            w.gate();
            due("2000000 2000000", () -> w.count(0) + " " + w.nextOutput());
            refused(w, GateCounter.LATE, () -> w.period());
        });
    }

    private static void choices() {
        holds("A choice makes both, each from now on, without changing anything; then the one with the greater count is made "
            + "(by gate if they are the same), or the only one that is not refused;", () -> {
            // By gate 7 to 60; by period to 74, 81 and 88 with 6, 7 and 7 clock edges, and to 95 with 8.
            GateCounter x = counter(SEVEN);
            x.set(5, 9);
            due("140000 60 0 7", () -> chosen(x));
            x.set(5, 10);
            due("140000 60 0 7", () -> chosen(x));
            x.set(5, 12);
            due("150000 95 1 8", () -> chosen(x));
            // By gate alone, as it is silent; by period alone, as the gate is late.
            due("0 110 0 0", () -> chosen(new GateCounter()));
            GateCounter y = counter("clock 10; signal 0 10; gate 9999;");
            y.runTo(1950000);
            due("100000 1950020 1 1", () -> chosen(y));
            // A count of 0 by gate is less than that by period, but more than what is refused.
            GateCounter z = counter("clock 10; signal 0 200; gate 1;");
            due("5000 400 1 20", () -> chosen(z));
        });
        holds("if both are, it is refused for the reason of the gate, and its cause is the reason of the other one.", () -> {
            GateCounter x = new GateCounter();
            x.runTo(1999990);
            refused(x, GateCounter.LATE, () -> x.choose());
            due(GateCounter.SILENT, () -> x.cause());
            x.addSegment(1999991, 9999);
            refused(x, GateCounter.LATE, () -> x.choose());
            due(GateCounter.LATE, () -> x.cause());
            x.undo();
            x.addSegment(1999991, 1);
            refused(x, GateCounter.LATE, () -> x.choose());
            due(GateCounter.SHORT, () -> x.cause());
        });
    }

    /** What a choice answers, the time behind it, by which it was and its count; it is undone then. */
    private static String chosen(GateCounter x) {
        int value = x.choose();
        int latest = x.count(7) - 1;
        String chosen = value + " " + x.count(0) + " " + x.measurement(latest, 0) + " " + x.measurement(latest, 3);
        x.undo();
        return chosen;
    }

    private static void calibrations() {
        holds("A calibration lasts some ticks from now on (all that comes up to the time then).", () -> {
            GateCounter x = counter("clock 10; signal 0 10; signal 20 1;");
            due(99, () -> x.calibrate(20));
            // At 20 the segment drops the edge of that time, and the clock edge comes.
            due("20 2 1 1 2 2 0 0 1 ", () -> numbers(x));
            due("30 0 1 21 0 -1 ", () -> states(x));
            GateCounter y = counter("clock 10; signal 0 10;");
            y.calibrate(20);
            due("20 2 2", () -> y.count(0) + " " + y.count(1) + " " + y.count(2));
        });
        holds("It sets CORRECTION: ticks times 1000, divided by the product of the number of clock edges in it and STEP, rounded down, less 1000, "
            + "but within -99 and 99.", () -> {
            // 1000 / 999 a tick: 1098.098, 1099.099, 1100.1.
            due("98 99 99 99", () -> corrected(0, 1097) + " " + corrected(0, 1098) + " " + corrected(0, 1099) + " " + corrected(0, 1997));
            // From 900 on one clock edge: 899.9, 900.9, 901.9, 902.9.
            due("-99 -99 -99 -98", () -> corrected(900, 899) + " " + corrected(900, 900) + " " + corrected(900, 901) + " " + corrected(900, 902));
            due("0 -2", () -> corrected(0, 999) + " " + corrected(1, 998));
            // 15 clock edges of 10 in 151 ticks: 1006.67.
            due(99 + 6, () -> new GateCounter().calibrate(151));
            due(99, () -> new GateCounter().calibrate(100000));
        });
        holds("It is refused, and nothing changes, for the first of these reasons: 1 late: it would end at a time above 2000000;", () -> {
            GateCounter x = counter("clock 10; signal 0 10;");
            x.runTo(1999995);
            refused(x, GateCounter.LATE, () -> x.calibrate(6));
            refused(x, GateCounter.LATE, () -> x.calibrate(100000));
            due("0 2000000", () -> x.calibrate(5) + " " + x.count(0));
            // No clock edge comes either.
            refused(x, GateCounter.LATE, () -> x.calibrate(1));
        });
        holds("4 no clock edge comes in it.", () -> {
            GateCounter x = counter("clock 10; signal 0 1;");
            refused(x, GateCounter.NO_CLOCK, () -> x.calibrate(9));
            due("99 10", () -> x.calibrate(10) + " " + x.count(0));
            refused(x, GateCounter.NO_CLOCK, () -> x.calibrate(9));
            // That of the time of now came already.
            refused(x, GateCounter.NO_CLOCK, () -> x.calibrate(1));
        });
    }

    private static int corrected(int from, int ticks) {
        GateCounter x = counter("clock 999;");
        x.runTo(from);
        x.calibrate(ticks);
        return x.setting(6);
    }

    private static void keeping() {
        holds("The latest 20 measurements are kept, numbered from 0 for the earliest one that is kept.", () -> {
            GateCounter x = counter("clock 10; gate 1;");
            for (int i = 1; i <= 20; i++) {
                int made = i;
                x.gate();
                due(made + " " + made + " 10 " + (20 * made - 10), () -> x.count(6) + " " + x.count(7) + " " + x.measurement(0, 1) + " "
                    + x.measurement(made - 1, 1));
            }
            for (int i = 21; i <= 45; i++) {
                int made = i;
                x.gate();
                due(made + " 20 " + (20 * (made - 19) - 10) + " " + (20 * made - 10), () -> x.count(6) + " " + x.count(7) + " "
                    + x.measurement(0, 1) + " " + x.measurement(19, 1));
                due(BOUNDS, () -> x.measurement(20, 1));
            }
            // What was put away by a further one comes back as that is undone.
            x.undo();
            due("44 20 490 870", () -> x.count(6) + " " + x.count(7) + " " + x.measurement(0, 1) + " " + x.measurement(19, 1));
            // With one dropped the next one puts nothing away.
            x.drop(5);
            x.gate();
            due("45 20 490 890", () -> x.count(6) + " " + x.count(7) + " " + x.measurement(0, 1) + " " + x.measurement(19, 1));
        });
    }

    private static void measuring() {
        section("Promise 11");
        holds("Throws IndexOutOfBoundsException if there is no such measurement", () -> {
            index(2, (x, measurement) -> x.measurement(measurement, 0));
            // It is told first.
            index(2, (x, measurement) -> x.measurement(measurement, measurement < 0 || measurement > 1 ? 8 : 7));
            due(BOUNDS, () -> new GateCounter().measurement(0, 0));
        });
        holds("Throws IllegalArgumentException if what is out of range", () -> range(0, 7, (x, what) -> x.measurement(1, what)));
        section("Promise 48");
        holds("Returns the value; NONE if it is refused.", () -> {
            GateCounter x = counter(SEVEN);
            due(140000, () -> x.gate());
            x.runTo(1999960);
            refused(x, GateCounter.LATE, () -> x.gate());
            // A value of 0 is none that is refused.
            GateCounter y = new GateCounter();
            due("0 0 1", () -> y.gate() + " " + y.reason() + " " + y.count(8));
        });
        section("Promise 49");
        holds("Returns the value; NONE if it is refused.", () -> {
            GateCounter x = counter(SEVEN);
            x.set(5, 1);
            refused(x, GateCounter.SHORT, () -> x.period());
            x.set(5, 3);
            due("150000 0", () -> x.period() + " " + x.reason());
            x.runTo(1999995);
            refused(x, GateCounter.LATE, () -> x.period());
            x.addSegment(1999999, 0);
            refused(x, GateCounter.SILENT, () -> x.period());
        });
        section("Promise 50");
        holds("Returns the value; NONE if it is refused.", () -> {
            GateCounter x = counter(SEVEN);
            due(140000, () -> x.choose());
            x.runTo(1999995);
            refused(x, GateCounter.LATE, () -> x.choose());
        });
    }

    private static void reasons() {
        section("Promise 12");
        holds("Returns the reason; 0 if nothing was refused yet, or the latest gate(), period(), choose(), calibrate() or waitOutput() was not "
            + "refused (questions, and calls that throw, leave it).", () -> {
            due("0 0", () -> reasonAndCause(new GateCounter()));
            due("1 1", () -> reasonAndCause(refusedChoice()));
            // Each of the five takes it away.
            due("100000 0 0", () -> behind(refusedChoice(), (x, n) -> x.gate()));
            due("100000 0 0", () -> behind(refusedChoice(), (x, n) -> x.period()));
            due("100000 0 0", () -> behind(refusedChoice(), (x, n) -> x.choose()));
            due("99 0 0", () -> behind(refusedChoice(), (x, n) -> x.calibrate(10)));
            due("1999990 0 0", () -> behind(refusedChoice(), (x, n) -> x.waitOutput()));
            // Other changes leave it, as questions do.
            due("1 1 1", () -> behind(refusedChoice(), (x, n) -> x.run(10)));
            due("1 1 1", () -> behind(refusedChoice(), (x, n) -> x.setPrescale(2)));
            due("2 1 1", () -> behind(refusedChoice(), (x, n) -> x.undo()));
            GateCounter y = refusedChoice();
            askEverything(y);
            y.printSettings();
            y.saveState();
            y.restoreState();
            due("1 1", () -> reasonAndCause(y));
            callAllThatThrow(y);
            due("1 1", () -> reasonAndCause(y));
        });
        section("Promise 13");
        holds("Returns the reason; 0 if reason() is 0, or the latest refusal (of whatever call that sets reasons) was none of choose().", () -> {
            due("0 0", () -> reasonAndCause(new GateCounter()));
            // A refusal of another one, also for the same reason, puts a cause away.
            due("-1 1 0", () -> behind(refusedChoice(), (x, n) -> {
                x.set(4, 2);
                return x.gate();
            }));
            due("-1 1 0", () -> behind(refusedChoice(), (x, n) -> {
                x.set(5, 2);
                return x.period();
            }));
            due("-1 1 0", () -> behind(refusedChoice(), (x, n) -> x.calibrate(21)));
            due("-1 4 0", () -> behind(refusedChoice(), (x, n) -> x.calibrate(9)));
            due("-1 1 0", () -> behind(refusedChoice(), (x, n) -> {
                x.setPrescale(4);
                return x.waitOutput();
            }));
            // By each reason of the measurement by period.
            GateCounter y = refusedChoice();
            y.runTo(1999990);
            y.addSegment(1999992, 1);
            y.choose();
            due("1 3", () -> reasonAndCause(y));
            y.addSegment(1999993, 0);
            y.choose();
            due("1 2", () -> reasonAndCause(y));
        });
    }

    /** A choice was refused for a late gate and a late end; with what it has now nothing would be. */
    private static GateCounter refusedChoice() {
        GateCounter x = counter("clock 10; signal 0 10; gate 5; periods 5;");
        x.runTo(1999980);
        x.choose();
        x.set(4, 1);
        x.set(5, 1);
        return x;
    }

    private static String reasonAndCause(GateCounter x) {
        return x.reason() + " " + x.cause();
    }

    private static String behind(GateCounter x, Call call) {
        return call.of(x, 0) + " " + reasonAndCause(x);
    }

    private static void choosing() {
        section("Promise 14");
        holds("Returns 0 if it was not called yet, or refused;", () -> {
            GateCounter x = new GateCounter();
            due(0, () -> x.chosenBy());
            x.gate();
            x.period();
            due(0, () -> x.chosenBy());
            x.choose();
            due(4, () -> x.chosenBy());
            x.runTo(2000000);
            due("-1 0", () -> x.choose() + " " + x.chosenBy());
        });
        holds("1 by gate, which had the greater count;", () -> due(1, () -> chosenBy(9)));
        holds("2 by period, which had;", () -> due("2 2", () -> chosenBy(12) + " " + chosenBy(999)));
        holds("3 by gate, as they were the same;", () -> due("3 3", () -> chosenBy(10) + " " + chosenBy(11)));
        holds("4 by gate, as the other one was refused;", () -> {
            due(4, () -> chosenBy(1));
            GateCounter x = new GateCounter();
            due("0 4 0", () -> x.choose() + " " + x.chosenBy() + " " + x.reason());
        });
        holds("5 by period, likewise.", () -> {
            GateCounter x = counter("clock 10; signal 0 10; gate 9999;");
            x.runTo(1950000);
            due("100000 5 0", () -> x.choose() + " " + x.chosenBy() + " " + x.reason());
            // It stays behind other calls.
            x.undo();
            x.period();
            x.gate();
            due(5, () -> x.chosenBy());
        });
    }

    /** By gate there are 7 edges; by period 0, 6, 7, 7 and 8 clock edges with 1, 9, 10, 11 and 12 periods. */
    private static int chosenBy(int periods) {
        GateCounter x = counter(SEVEN);
        x.set(5, periods);
        x.choose();
        return x.chosenBy();
    }

    private static void calibrating() {
        section("Promise 51");
        holds("ticks: 1 to 100000", () -> range(1, 100000, (x, ticks) -> x.calibrate(ticks)));
        holds("Throws IllegalArgumentException if ticks is out of range", () -> {
            // Also where it would be refused.
            GateCounter x = new GateCounter();
            x.runTo(2000000);
            leaves(x, ILLEGAL, () -> x.calibrate(0));
            leaves(x, ILLEGAL, () -> x.calibrate(100001));
        });
        holds("Returns CORRECTION then, and 99 more; NONE if it is refused.", () -> {
            // CORRECTION is -99, 0 and 99; -1 alone tells that it is refused.
            GateCounter x = counter("clock 999;");
            refused(x, GateCounter.NO_CLOCK, () -> x.calibrate(998));
            due("99 0", () -> x.calibrate(999) + " " + x.setting(6));
            due("198 99", () -> x.calibrate(1997) + " " + x.setting(6));
            due("0 -99", () -> x.calibrate(1) + " " + x.setting(6));
            x.runTo(1999999);
            refused(x, GateCounter.LATE, () -> x.calibrate(2));
        });
    }
}
