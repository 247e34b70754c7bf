/** Ordinary sentences of the promises that forecast and find, promises 16 to 38: what they tell is held against what comes then. */
final class ForecastSentences extends Sentences {
    private static final int[] TICKS = {1, 2, 5, 9, 10, 11, 30, 99, 100, 101, 777, 1004, 20000, 100000};
    /** In so many ticks no more edges come than can be looked at one by one. */
    private static final int[] FEWER_TICKS = {1, 2, 5, 9, 10, 11, 30, 99, 100, 101, 777, 1004};

    private ForecastSentences() {
    }

    static void all() {
        byTicks();
        ratesAndSilence();
        times();
        clocks();
        measurements();
        ideals();
        corrections();
    }

    /** A clock that ages and carries, a signal that changes and is silent once, and an edge that is still to come at the time of now. */
    private static GateCounter busy() {
        GateCounter x = counter("clock 10 drift 95 age 1; prescale 4; gate 3; periods 2;"
            + "signal 0 10; signal 47 3; signal 90 0; signal 400 7; signal 5000 1; signal 5100 250;");
        x.gate();
        return x;
    }

    private static GateCounter[] several() {
        GateCounter later = busy();
        later.runTo(4321);
        return new GateCounter[] {new GateCounter(), counter(SEVEN), busy(), later};
    }

    private static void byTicks() {
        section("Promise 16");
        holds("Forecasts how many edges come.", () -> comes(TICKS, (x, ticks) -> x.edgesIn(ticks), (x, ticks) -> x.run(ticks)));
        section("Promise 17");
        holds("Forecasts how many outputs come.", () -> comes(TICKS, (x, ticks) -> x.outputsIn(ticks),
            (x, ticks) -> x.runTo(x.count(0) + ticks)));
        section("Promise 18");
        holds("Forecasts how many clock edges come.", () -> comes(TICKS, (x, ticks) -> x.clocksIn(ticks), (x, ticks) -> {
            int before = x.count(1);
            x.run(ticks);
            return x.count(1) - before;
        }));
        section("Promise 19");
        holds("Forecasts DRIFT.", () -> comes(TICKS, (x, ticks) -> x.driftIn(ticks), (x, ticks) -> {
            x.run(ticks);
            return x.setting(1);
        }));
    }

    /** What a question tells for some ticks is what a change that lets them pass answers. */
    private static void comes(int[] some, Call question, Call change) {
        for (int ticks : some) {
            for (GateCounter x : several()) {
                Object told = question.of(x, ticks);
                due(told, () -> change.of(x, ticks));
            }
        }
    }

    private static void ratesAndSilence() {
        section("Promise 28");
        holds("Tells how many edges come in some ticks, for 1000000 ticks:", () -> comes(TICKS, (x, ticks) -> x.trueRate(ticks),
            (x, ticks) -> (int) (x.run(ticks) * 1000000L / ticks)));
        holds("Returns the quotient.", () -> {
            // 14 edges in 99 and in 104 ticks, 15 in 105.
            GateCounter x = counter("clock 10; signal 0 7;");
            due("141414 134615 142857", () -> x.trueRate(99) + " " + x.trueRate(104) + " " + x.trueRate(105));
        });
        section("Promise 30");
        holds("Forecasts the longest time without an edge in some ticks:", () -> comes(FEWER_TICKS, (x, ticks) -> x.longestSilence(ticks), (x, ticks) -> {
            int latest = x.count(0);
            int end = latest + ticks;
            int longest = 0;
            for (int next = x.timeOfEdge(1); next >= 0 && next <= end; next = x.timeOfEdge(1)) {
                longest = Math.max(longest, next - latest);
                latest = next;
                x.runTo(next);
            }
            return Math.max(longest, end - latest);
        }));
        holds("Returns the difference.", () -> {
            // From now to the first one of 60, between those of 60 and 120, and from there to the end.
            GateCounter x = counter("clock 10; signal 0 60; signal 121 0;");
            due("59 60 60 60 61", () -> x.longestSilence(59) + " " + x.longestSilence(60) + " " + x.longestSilence(150) + " " + x.longestSilence(180)
                + " " + x.longestSilence(181));
        });
    }

    private static void times() {
        section("Promise 20");
        holds("Forecasts the time of the next output.", () -> {
            for (int i = 0; i < 40; i++) {
                GateCounter x = busy();
                x.runTo(40 + 13 * i);
                int told = x.nextOutput();
                due(told, () -> x.waitOutput());
                due(told, () -> x.count(0));
            }
        });
        section("Promise 21");
        holds("Forecasts in how many ticks the next segment comes.", () -> {
            GateCounter x = busy();
            int[] times = {47, 90, 400, 5000, 5100};
            for (int i = 0; i < times.length; i++) {
                int came = i + 1;
                int time = times[i];
                due(time - x.count(0), () -> x.changesIn());
                x.runTo(time - 1);
                due("1 " + came, () -> x.changesIn() + " " + x.count(5));
                x.run(1);
                due(came + 1, () -> x.count(5));
            }
        });
        section("Promise 22");
        holds("Forecasts the time of an edge.", () -> {
            int[] which = {1, 2, 3, 7, 16, 17, 100, 673, 674, 999, 1000};
            for (int n : which) {
                for (GateCounter x : several()) {
                    int told = x.timeOfEdge(n);
                    int before = x.count(2);
                    if (told > x.count(0)) {
                        x.runTo(told - 1);
                        due(true, () -> x.count(2) < before + n);
                    }
                    x.runTo(Math.max(told, x.count(0)));
                    due(told >= 0, () -> x.count(2) == before + n);
                }
            }
        });
        section("Promise 23");
        holds("Forecasts the time of a clock edge.", () -> {
            int[] which = {1, 2, 99, 100, 101, 200, 999, 1000};
            for (int n : which) {
                for (GateCounter x : several()) {
                    int told = x.timeOfClock(n);
                    int before = x.count(1);
                    x.runTo(told - 1);
                    due(before + n - 1, () -> x.count(1));
                    x.runTo(told);
                    due(before + n, () -> x.count(1));
                }
            }
        });
    }

    private static void clocks() {
        section("Promise 24");
        holds("Forecasts how unsteady the clock is:", () -> {
            String[] texts = {"clock 10 drift 95;", "clock 10 drift -95;", "clock 10 drift -2 age 1;", "clock 999 drift 1;"};
            for (String text : texts) {
                int[] steps = {1, 2, 10, 11, 12, 100, 300, 999};
                for (int n : steps) {
                    GateCounter x = counter(text);
                    int least = Integer.MAX_VALUE;
                    int greatest = 0;
                    for (int i = 1; i <= n; i++) {
                        int step = x.timeOfClock(i + 1) - x.timeOfClock(i);
                        least = Math.min(least, step);
                        greatest = Math.max(greatest, step);
                    }
                    due(greatest - least, () -> x.wobble(n));
                }
            }
        });
        section("Promise 25");
        holds("Forecasts behind how many clock edges DRIFT is first some number.", () -> {
            for (int drift = -3; drift <= 5; drift++) {
                for (int age = -1; age <= 1; age++) {
                    GateCounter x = counter("clock 10 drift 1 age " + age + ";");
                    x.runTo(1500);
                    int wanted = drift;
                    int edges = x.clocksTo(drift);
                    if (edges > 0) {
                        x.runTo(x.timeOfClock(edges) - 1);
                        due(false, () -> x.setting(1) == wanted);
                        x.run(1);
                    }
                    due(edges >= 0, () -> x.setting(1) == wanted);
                }
            }
        });
    }

    private static void measurements() {
        section("Promise 26");
        holds("Forecasts a measurement by gate. what: as for measurement()", () -> foresees((x, what) -> x.byGate(what), (x, none) -> x.gate()));
        section("Promise 27");
        holds("Forecasts a measurement by period. what: as for measurement()", () -> foresees((x, what) -> x.byPeriod(what), (x, none) -> x.period()));
        section("Promise 31");
        holds("Forecasts how far both ways are from one another.", () -> {
            GateCounter x = busy();
            x.set(6, 13);
            for (int i = 0; i < 50; i++) {
                int apart = x.apart();
                int gate = x.gate();
                x.undo();
                int period = x.period();
                x.undo();
                due(gate < 0 || period < 0 ? -1 : Math.abs(gate - period), () -> apart);
                x.run(7);
            }
        });
    }

    /** What a question tells of each number is what measurement() tells of the measurement that is made then. */
    private static void foresees(Call question, Call change) {
        for (int i = 0; i < 40; i++) {
            GateCounter x = busy();
            x.set(6, i - 20);
            x.set(4, 1 + i);
            x.set(5, 1 + i / 2);
            x.runTo(40 + 11 * i);
            StringBuilder told = new StringBuilder();
            for (int what = 0; what <= 7; what++) {
                told.append(question.of(x, what)).append(' ');
            }
            boolean made = !change.of(x, 0).equals(-1);
            due(told, () -> made ? measured(x, x.count(7) - 1) : "-1 -1 -1 -1 -1 -1 -1 -1 ");
        }
    }

    private static void ideals() {
        section("Promise 29");
        holds("Tells what the value of a measurement, made now, would be if DRIFT, AGE, REST and CORRECTION were 0", () -> {
            // Ahead of the first clock edge REST is 0, and so the others can be set to 0.
            int[] drifts = {-99, -50, 0, 50, 99};
            for (int drift : drifts) {
                GateCounter x = counter("clock 10 drift " + drift + " age 1; gate 500; periods 90; signal 0 7; signal 1000 3;");
                x.set(6, 21);
                String told = x.idealValue(false) + " " + x.idealValue(true);
                x.set(1, 0);
                x.set(2, 0);
                x.set(6, 0);
                due(told, () -> x.byGate(4) + " " + x.byPeriod(4));
            }
        });
        holds("if DRIFT, AGE, REST and CORRECTION were 0", () -> {
            // All else is as it is, the count of the prescaler too: 13 of 16 edges, with the 16th one at 48 and the 32nd one at 96.
            GateCounter x = counter("clock 10; prescale 16; gate 1; signal 0 3;");
            x.runTo(39);
            due("1600000 320000", () -> x.idealValue(false) + " " + x.idealValue(true));
        });
        holds("byPeriod: whether it is made by period, otherwise by gate", () -> {
            // By gate 7 edges of 5 clock edges, by period 3 PERIODs of 2 clock edges.
            GateCounter x = counter(SEVEN);
            x.set(6, 50);
            due("140000 150000", () -> x.idealValue(false) + " " + x.idealValue(true));
        });
    }

    private static void corrections() {
        section("Promise 38");
        holds("Finds the CORRECTION with which the value of a measurement by gate, made now, would be nearest to a value.", () -> {
            String text = "clock 10; gate 100; signal 0 7;";
            int[] values = {0, 120000, 130000, 130102, 139999, 142857, 143000, 150000, 158712, 160000, 2000000};
            for (int value : values) {
                GateCounter x = counter(text);
                int found = x.correctionFor(value);
                int nearest = Integer.MAX_VALUE;
                for (int correction = -99; correction <= 99; correction++) {
                    x.set(6, correction);
                    nearest = Math.min(nearest, Math.abs(x.byGate(4) - value));
                }
                x.set(6, found);
                int least = nearest;
                due(least, () -> Math.abs(x.byGate(4) - value));
            }
            // 143 edges: 143000000 / 999 is 143143; what CORRECTION is now does not matter.
            GateCounter x = counter(text);
            x.set(6, 44);
            due("-1 0 99 -99", () -> x.correctionFor(143143) + " " + x.correctionFor(143000) + " " + x.correctionFor(0) + " " + x.correctionFor(2000000));
        });
    }
}
