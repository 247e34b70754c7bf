/** Boundary cases of time: the clock, the signal and the prescaler, and the promises that look at them or let time pass. */
final class TimeBoundaries extends Sentences {
    private TimeBoundaries() {
    }

    static void all() {
        section("Terms");
        order();
        clock();
        signalAndPrescaler();
        looking();
        forecastsByTicks();
        forecastsOfTimes();
        steps();
        running();
        settings();
        segments();
    }

    private static void order() {
        holds("The time counts ticks, 0 at first.", () -> {
            GateCounter x = new GateCounter();
            due(0, () -> x.count(0));
            x.run(1);
            due(1, () -> x.count(0));
            due(0, () -> counter("clock 10; signal 0 3;").count(0));
        });
        holds("edges (those of the time 0 with the first call that lets time pass", () -> {
            String text = "clock 10; signal 0 3;";
            due("0 0 -1 0", () -> cameAndNext(counter(text)));
            GateCounter x = counter(text);
            due(0, () -> x.runTo(0));
            due("1 3 3 -1", () -> cameAndNext(x));
            GateCounter y = counter(text);
            due(0, () -> y.run(1));
            due("1 3 3 -1", () -> cameAndNext(y));
            GateCounter z = counter(text);
            due(3, () -> z.waitOutput());
            due("1 3 6 -1", () -> cameAndNext(z));
            due(1, () -> counter(text).edgesIn(3));
            due(3, () -> counter(text).nextOutput());
        });
        holds("What comes next is what has the least time; at one time segments come first, then clock edges, then edges.", () -> {
            // The edge of the time 10 is dropped by the segment of that time, the one of 9 is not.
            due(1, () -> counter("clock 10; signal 0 5; signal 10 100;").edgesIn(20));
            due(2, () -> counter("clock 10; signal 0 5; signal 11 100;").edgesIn(20));
            // With the closing, at 20, the segment of that time came, but not one behind that time.
            GateCounter x = counter("clock 10; signal 20 1; signal 21 2; gate 1;");
            x.gate();
            due("20 1 1", () -> x.count(0) + " " + x.count(5) + " " + x.state(2));
            // The clock edge of 20 is ahead of the edge of 20, which does not count.
            GateCounter y = counter("clock 10; signal 0 20; gate 1;");
            due("0 0", () -> y.gate() + " " + y.count(2));
            GateCounter z = counter("clock 10; signal 0 20;");
            due("20 2", () -> z.waitOutput() + " " + z.count(1));
        });
    }

    /** Segments that came, PERIOD, the next edge and the next segment. */
    private static String cameAndNext(GateCounter x) {
        return x.count(5) + " " + x.state(2) + " " + x.state(3) + " " + x.state(5);
    }

    private static void clock() {
        holds("Clock edges: the first one is at the time STEP.", () -> {
            int[] steps = {10, 999};
            for (int step : steps) {
                GateCounter x = counter("clock " + step + " drift 99 age 1;");
                due(step, () -> x.state(0));
                due("0 1", () -> x.clocksIn(step - 1) + " " + x.clocksIn(step));
            }
        });
        holds("There is a REST (0 at first, 0 to 999).", () -> {
            int[] drifts = {99, -99, 1, -1, 27, 50, 0};
            for (int drift : drifts) {
                GateCounter x = counter("clock 10 drift " + drift + ";");
                due(0, () -> x.state(1));
                for (int k = 1; k <= 45; k++) {
                    int sum = k * drift;
                    x.runTo(x.state(0));
                    due(Math.floorMod(sum, 1000), () -> x.state(1));
                }
            }
        });
        holds("Behind each clock edge REST and DRIFT are added; that sum divided by 1000, rounded down (also if it is below 0), and STEP together "
            + "are how many ticks later the next clock edge is;", () -> {
            // Below 0: -1 is 1 tick less. At 999 nothing is carried yet, at 1000 it is.
            due("19 29", () -> counter("clock 10 drift -1;").timeOfClock(2) + " " + counter("clock 10 drift -1;").timeOfClock(3));
            due("380 391", () -> counter("clock 10 drift 27;").timeOfClock(38) + " " + counter("clock 10 drift 27;").timeOfClock(39));
            due("200 211", () -> counter("clock 10 drift 50;").timeOfClock(20) + " " + counter("clock 10 drift 50;").timeOfClock(21));
            // Without AGE the k-th one comes at k times STEP and all that was carried by then.
            int[] drifts = {-99, -98, -50, -41, -10, -1, 0, 1, 10, 11, 27, 50, 91, 98, 99};
            for (int drift : drifts) {
                GateCounter y = counter("clock 10 drift " + drift + ";");
                for (int k = 1; k <= 9801; k += k % 100 == 0 ? 1 : 99) {
                    int time = 10 * k + Math.floorDiv(drift * (k - 1), 1000);
                    String want = k - 1 + " " + k;
                    due(want, () -> y.clocksIn(time - 1) + " " + y.clocksIn(time));
                }
            }
            // With one DRIFT behind the first 37 clock edges and another one behind the others: when the 200th one comes.
            for (int before = -99; before <= 99; before += 9) {
                for (int drift = -99; drift <= 99; drift++) {
                    GateCounter z = counter("clock 10 drift " + before + ";");
                    z.runTo(z.timeOfClock(37));
                    z.set(1, drift);
                    int ticks = 2000 + Math.floorDiv(37 * before + 162 * drift, 1000) - z.count(0);
                    due("162 163", () -> z.clocksIn(ticks - 1) + " " + z.clocksIn(ticks));
                }
            }
            // A sum of 0 takes nothing away: -50 comes to that with the 20th, and the 21st takes a tick again.
            GateCounter x = counter("clock 10 drift -50;");
            due("19 199 209 218", () -> x.timeOfClock(2) + " " + x.timeOfClock(20) + " " + x.timeOfClock(21) + " " + x.timeOfClock(22));
        });
        holds("REST becomes the remainder (0 to 999).", () -> {
            GateCounter x = counter("clock 10 drift -1;");
            x.runTo(10);
            due(999, () -> x.state(1));
            x.set(1, 1);
            x.runTo(19);
            // 999 and 1 are 1000: a tick more, and nothing is left.
            due("0 30", () -> x.state(1) + " " + x.state(0));
            GateCounter y = counter("clock 10 drift -99;");
            y.runTo(10);
            due("901 19", () -> y.state(1) + " " + y.state(0));
        });
        holds("Behind each 100th clock edge of all so far, ahead of that, AGE is added to DRIFT", () -> {
            GateCounter x = counter("clock 10 age 1;");
            x.runTo(999);
            due("99 0 0", () -> x.count(1) + " " + x.setting(1) + " " + x.state(1));
            x.runTo(1000);
            // Ahead of REST's sum: that is 1 already.
            due("100 1 1", () -> x.count(1) + " " + x.setting(1) + " " + x.state(1));
            x.runTo(1999);
            due("199 1 100", () -> x.count(1) + " " + x.setting(1) + " " + x.state(1));
            x.runTo(2000);
            due("200 2 102", () -> x.count(1) + " " + x.setting(1) + " " + x.state(1));
            // Those ahead of AGE's being set count as well.
            GateCounter y = new GateCounter();
            y.runTo(505);
            y.set(2, -1);
            due("0 -1", () -> y.driftIn(494) + " " + y.driftIn(495));
        });
        holds("which stays within -99 and 99.", () -> {
            GateCounter x = counter("clock 10 drift 98 age 1;");
            due("98 99 99", () -> x.driftIn(1008) + " " + x.driftIn(1009) + " " + x.driftIn(100000));
            GateCounter y = counter("clock 10 drift -98 age -1;");
            due("-98 -99 -99", () -> y.driftIn(989) + " " + y.driftIn(990) + " " + y.driftIn(100000));
            x.runTo(50000);
            y.runTo(50000);
            due("99 -99", () -> x.setting(1) + " " + y.setting(1));
        });
    }

    private static void signalAndPrescaler() {
        holds("The signal has a PERIOD, 0 at first (silent); with it no edge comes.", () -> {
            GateCounter x = counter("clock 10; signal 100001 1;");
            due("0 -1", () -> x.state(2) + " " + x.state(3));
            due(0, () -> x.run(100000));
            due("0 -1 0", () -> x.state(2) + " " + x.state(3) + " " + x.count(2));
        });
        holds("A segment has a time and a PERIOD; as it comes, its PERIOD takes the place of the one before, and the next edge is its PERIOD later "
            + "(none, if that is 0; what was to come before is dropped).", () -> {
            GateCounter x = counter("clock 10; signal 0 5; signal 12 0; signal 30 5; signal 34 9999;");
            due("12 0 34 9999", () -> x.segment(1, 0) + " " + x.segment(1, 1) + " " + x.segment(3, 0) + " " + x.segment(3, 1));
            x.runTo(11);
            due("5 15", () -> x.state(2) + " " + x.state(3));
            x.runTo(12);
            due("0 -1", () -> x.state(2) + " " + x.state(3));
            due(0, () -> x.edgesIn(21));
            x.runTo(33);
            due("5 35", () -> x.state(2) + " " + x.state(3));
            x.runTo(34);
            due("9999 10033", () -> x.state(2) + " " + x.state(3));
            due("0 1", () -> x.edgesIn(9998) + " " + x.edgesIn(9999));
            // With a PERIOD of 1 an edge comes at each tick.
            due("0 1 99999", () -> edges("clock 10; signal 1 1;", 1) + " " + edges("clock 10; signal 1 1;", 2)
                + " " + edges("clock 10; signal 1 1;", 100000));
        });
        holds("The prescaler has a number P (1, 2, 4, 8 or 16) and a count, 0 at first.", () -> {
            int[] allowed = {1, 2, 4, 8, 16};
            for (int p : allowed) {
                due(0, () -> counter("clock 10; prescale " + p + ";").state(4));
            }
        });
        holds("With each edge the count becomes 1 more; if it is P then, it becomes 0, and this edge is an output.", () -> {
            int[] allowed = {1, 2, 4, 8, 16};
            for (int p : allowed) {
                GateCounter x = counter("clock 10; prescale " + p + "; signal 0 3;");
                for (int edge = 1; edge <= 33; edge++) {
                    String want = edge + " " + edge / p + " " + edge % p;
                    x.run(3);
                    due(want, () -> x.count(2) + " " + x.count(3) + " " + x.state(4));
                }
            }
        });
    }

    private static int edges(String text, int ticks) {
        return counter(text).edgesIn(ticks);
    }

    private static void looking() {
        section("Promise 7");
        holds("Throws IllegalArgumentException if what is out of range", () -> range(0, 8, (x, what) -> x.count(what)));
        holds("Returns a number of the whole. what: 0 the time, 1 clock edges so far, 2 edges so far, 3 outputs so far, 4 segments, 5 segments that "
            + "came, 6 measurements so far, 7 measurements that are kept, 8 changes that can be undone Returns the number.", () -> {
            GateCounter x = counter("clock 10; prescale 2; signal 4 7; signal 500 3; gate 5;");
            x.gate();
            x.run(10);
            x.drop(0);
            due("70 7 9 4 2 1 1 0 3 ", () -> numbers(x));
        });
        section("Promise 8");
        holds("Throws IllegalArgumentException if what is out of range", () -> range(0, 6, (x, what) -> x.setting(what)));
        section("Promise 9");
        holds("Throws IllegalArgumentException if what is out of range", () -> range(0, 5, (x, what) -> x.state(what)));
        holds("3 the time of the next edge (NONE if it is silent)", () -> {
            GateCounter x = counter("clock 10; signal 5 5; signal 12 0;");
            due(-1, () -> x.state(3));
            x.runTo(5);
            due(10, () -> x.state(3));
            x.runTo(12);
            due(-1, () -> x.state(3));
        });
        holds("5 the time of the next segment (NONE without one)", () -> {
            due(-1, () -> new GateCounter().state(5));
            GateCounter x = counter("clock 10; signal 0 5; signal 999999 0;");
            due(0, () -> x.state(5));
            x.runTo(0);
            due(999999, () -> x.state(5));
            x.runTo(999998);
            due(999999, () -> x.state(5));
            x.runTo(999999);
            due(-1, () -> x.state(5));
        });
        section("Promise 10");
        holds("Throws IndexOutOfBoundsException if there is no such segment", () -> {
            index(2, (x, segment) -> x.segment(segment, 0));
            // It is told first.
            index(2, (x, segment) -> x.segment(segment, segment < 0 || segment > 1 ? 2 : 1));
            due(BOUNDS, () -> new GateCounter().segment(0, 0));
            GateCounter x = counter("clock 10; signal 1 1; signal 2 2; signal 3 3; signal 4 4; signal 5 5; signal 6 6; signal 7 7; signal 8 9;");
            due("8 9", () -> x.segment(7, 0) + " " + x.segment(7, 1));
            due(BOUNDS, () -> x.segment(8, 0));
            x.dropSegment();
            due(BOUNDS, () -> x.segment(7, 0));
        });
        holds("Throws IllegalArgumentException if what is out of range", () -> range(0, 1, (x, what) -> x.segment(1, what)));
        section("Promise 15");
        holds("Tells whether the accounts add up: edges since the prescaler was set are P times outputs since then, and its count. Returns whether "
            + "they do.", () -> {
            GateCounter x = counter("clock 10; prescale 16; signal 0 3;");
            int[] allowed = {1, 2, 4, 8, 16, 16};
            for (int p : allowed) {
                x.run(100);
                due(true, () -> x.addsUp());
                x.setPrescale(p);
                due(true, () -> x.addsUp());
            }
            x.undo();
            due(true, () -> x.addsUp());
        });
    }

    private static void forecastsByTicks() {
        String text = "clock 10 drift 50 age 1; prescale 2; signal 4 7; signal 30 0; signal 100 1;";
        section("Promise 16");
        holds("ticks: 0 to 100000", () -> range(0, 100000, (x, ticks) -> x.edgesIn(ticks)));
        holds("Throws IllegalArgumentException if ticks is out of range", () -> due(ILLEGAL, () -> counter(text).edgesIn(-1)));
        holds("Returns the number of those up to the time then.", () -> {
            due("0 0 1 3 4", () -> edges(text, 0) + " " + edges(text, 10) + " " + edges(text, 11) + " " + edges(text, 100) + " " + edges(text, 101));
            due(99903, () -> counter(text).edgesIn(100000));
            due("1 100001", () -> pending().edgesIn(0) + " " + pending().edgesIn(100000));
            // Also beyond the time 2000000: the 285715th one comes at 2000005, the 300000th one at 2100000.
            due("0 1 14285 14286", () -> ended().edgesIn(4) + " " + ended().edgesIn(5) + " " + ended().edgesIn(99999) + " "
                + ended().edgesIn(100000));
        });
        section("Promise 17");
        holds("ticks: 0 to 100000", () -> range(0, 100000, (x, ticks) -> x.outputsIn(ticks)));
        holds("Throws IllegalArgumentException if ticks is out of range", () -> due(ILLEGAL, () -> counter(text).outputsIn(100001)));
        holds("Returns the number of those up to the time then.", () -> {
            GateCounter x = counter(text);
            due("0 0 1 1 2 2 3", () -> x.outputsIn(0) + " " + x.outputsIn(17) + " " + x.outputsIn(18) + " " + x.outputsIn(100) + " "
                + x.outputsIn(101) + " " + x.outputsIn(102) + " " + x.outputsIn(103));
            due("1 100001", () -> pending().outputsIn(0) + " " + pending().outputsIn(100000));
            // Also beyond the time 2000000, of two edges one.
            due("0 1 7142 7143", () -> ended().outputsIn(11) + " " + ended().outputsIn(12) + " " + ended().outputsIn(99999) + " "
                + ended().outputsIn(100000));
        });
        section("Promise 18");
        holds("ticks: 0 to 100000", () -> range(0, 100000, (x, ticks) -> x.clocksIn(ticks)));
        holds("Throws IllegalArgumentException if ticks is out of range", () -> due(ILLEGAL, () -> counter(text).clocksIn(-1)));
        holds("Returns the number of those up to the time then.", () -> {
            GateCounter x = counter(text);
            due("0 0 1 20 21", () -> x.clocksIn(0) + " " + x.clocksIn(9) + " " + x.clocksIn(10) + " " + x.clocksIn(210) + " " + x.clocksIn(211));
            due("9999 10000", () -> new GateCounter().clocksIn(99999) + " " + new GateCounter().clocksIn(100000));
            due(0, () -> pending().clocksIn(0));
            due("0 1 9999 10000", () -> ended().clocksIn(9) + " " + ended().clocksIn(10) + " " + ended().clocksIn(99999) + " "
                + ended().clocksIn(100000));
        });
        section("Promise 19");
        holds("ticks: 0 to 100000", () -> range(0, 100000, (x, ticks) -> x.driftIn(ticks)));
        holds("Throws IllegalArgumentException if ticks is out of range", () -> due(ILLEGAL, () -> counter(text).driftIn(100001)));
        holds("Returns DRIFT behind all that comes up to the time then.", () -> {
            GateCounter x = counter(text);
            due("50 50 51", () -> x.driftIn(0) + " " + x.driftIn(1003) + " " + x.driftIn(1004));
            due("98 99", () -> counter("clock 10 age 1;").driftIn(99000) + " " + counter("clock 10 age 1;").driftIn(100000));
            // Also beyond the time 2000000, up to which 200000 clock edges came.
            GateCounter y = ended();
            y.set(2, -1);
            due("0 -1 -99", () -> y.driftIn(999) + " " + y.driftIn(1000) + " " + y.driftIn(100000));
        });
        section("Promise 28");
        holds("ticks: 1 to 100000", () -> range(1, 100000, (x, ticks) -> x.trueRate(ticks)));
        holds("Throws IllegalArgumentException if ticks is out of range", () -> due(ILLEGAL, () -> counter(text).trueRate(0)));
        holds("that number times 1000000, divided by the ticks, rounded down.", () -> {
            GateCounter x = counter("clock 10; signal 4 7;");
            due("0 0 90909 111111", () -> x.trueRate(1) + " " + x.trueRate(10) + " " + x.trueRate(11) + " " + x.trueRate(18));
            // At its greatest: two edges in a tick, of which one is still to come now; more than an int can hold times 1000000.
            due(2000000, () -> pending().trueRate(1));
            due(1000010, () -> pending().trueRate(100000));
            due("0 200000 142860", () -> ended().trueRate(4) + " " + ended().trueRate(5) + " " + ended().trueRate(100000));
        });
        section("Promise 30");
        holds("ticks: 1 to 100000", () -> range(1, 100000, (x, ticks) -> x.longestSilence(ticks)));
        holds("Throws IllegalArgumentException if ticks is out of range", () -> due(ILLEGAL, () -> counter(text).longestSilence(0)));
        holds("Forecasts the longest time without an edge in some ticks: the greatest difference of two times that follow one another among the "
            + "time of now, those of the edges that come up to the end, and the end.", () -> {
            GateCounter x = counter("clock 10; signal 4 7; signal 40 0; signal 60 100; signal 170 3;");
            // Edges at 11, 18, 25, 32, 39, 160, 173 and on. Without one: from now to the end; ahead of the first; behind the last.
            due("1 10 11 11", () -> x.longestSilence(1) + " " + x.longestSilence(10) + " " + x.longestSilence(11) + " " + x.longestSilence(20));
            due("11 12 120 121 121", () -> x.longestSilence(50) + " " + x.longestSilence(51) + " " + x.longestSilence(159) + " "
                + x.longestSilence(160) + " " + x.longestSilence(100000));
            x.runTo(161);
            due("12 12 5", () -> x.longestSilence(12) + " " + x.longestSilence(100000) + " " + x.longestSilence(5));
            x.runTo(173);
            due("2 3 3", () -> x.longestSilence(2) + " " + x.longestSilence(3) + " " + x.longestSilence(4));
            due(100000, () -> new GateCounter().longestSilence(100000));
            // One edge and two edges within a PERIOD of 100, from its middle on.
            GateCounter y = counter("clock 10; signal 0 100;");
            y.runTo(50);
            due("49 50 50 60 99 100 100", () -> y.longestSilence(49) + " " + y.longestSilence(50) + " " + y.longestSilence(60) + " "
                + y.longestSilence(110) + " " + y.longestSilence(149) + " " + y.longestSilence(150) + " " + y.longestSilence(160));
            // An edge of a segment's time is dropped, and one of a tick ahead is not.
            due("15 14", () -> counter("clock 10; signal 0 5; signal 10 10;").longestSilence(20) + " "
                + counter("clock 10; signal 0 5; signal 11 13;").longestSilence(24));
            // With edges that follow one another closely: the PERIOD, though both ends are nearer.
            due(1, () -> pending().longestSilence(5));
            // Also beyond the time 2000000, with edges at 2000005 and 2000012.
            due("4 5 6 7 7", () -> ended().longestSilence(4) + " " + ended().longestSilence(5) + " " + ended().longestSilence(11) + " "
                + ended().longestSilence(12) + " " + ended().longestSilence(100000));
        });
    }

    /** Its edge of the time of now, 20, is still to come, and one at each tick behind that. */
    private static GateCounter pending() {
        GateCounter x = counter("clock 10; signal 19 1; gate 1;");
        x.gate();
        return x;
    }

    /** Its time is 2000000; of 285714 edges so far each second one was an output, and 200000 clock edges came. */
    private static GateCounter ended() {
        GateCounter x = counter("clock 10; prescale 2; signal 0 7;");
        x.runTo(2000000);
        return x;
    }

    private static void forecastsOfTimes() {
        section("Promise 20");
        holds("Returns the time; NONE if none comes up to the time 2000000.", () -> {
            due(-1, () -> new GateCounter().nextOutput());
            // The last one of each 16 edges comes with 2000000, as 160 divides that.
            GateCounter x = counter("clock 10; prescale 16; signal 0 10;");
            due(160, () -> x.nextOutput());
            x.runTo(1999999);
            due(2000000, () -> x.nextOutput());
            x.runTo(2000000);
            due(-1, () -> x.nextOutput());
            GateCounter y = counter("clock 10; prescale 16; signal 0 10;");
            y.runTo(1999850);
            y.setPrescale(16);
            due(-1, () -> y.nextOutput());
            y.setPrescale(8);
            due(1999930, () -> y.nextOutput());
            // By a segment that is still to come: 2000000, or just above.
            GateCounter z = new GateCounter();
            z.addSegment(1999999, 1);
            due(2000000, () -> z.nextOutput());
            z.undo();
            z.addSegment(1999999, 2);
            due(-1, () -> z.nextOutput());
            due(20, () -> pending().nextOutput());
        });
        section("Promise 21");
        holds("Returns the ticks; NONE without one.", () -> {
            due(-1, () -> new GateCounter().changesIn());
            GateCounter x = counter("clock 10; signal 0 1; signal 50 1;");
            due(0, () -> x.changesIn());
            x.runTo(0);
            due(50, () -> x.changesIn());
            x.runTo(49);
            due(1, () -> x.changesIn());
            x.runTo(50);
            due(-1, () -> x.changesIn());
        });
        section("Promise 22");
        holds("n: 1 to 1000: 1 for the next one, and so on", () -> {
            range(1, 1000, (x, n) -> x.timeOfEdge(n));
            GateCounter x = counter("clock 10; signal 4 7; signal 30 0; signal 100 1;");
            due("11 18 25 101 1097", () -> x.timeOfEdge(1) + " " + x.timeOfEdge(2) + " " + x.timeOfEdge(3) + " " + x.timeOfEdge(4) + " "
                + x.timeOfEdge(1000));
            due("20 21 1019", () -> pending().timeOfEdge(1) + " " + pending().timeOfEdge(2) + " " + pending().timeOfEdge(1000));
        });
        holds("Throws IllegalArgumentException if n is out of range", () -> due(ILLEGAL, () -> new GateCounter().timeOfEdge(0)));
        holds("Returns the time; NONE if it does not come up to the time 2000000.", () -> {
            due(-1, () -> new GateCounter().timeOfEdge(1));
            GateCounter x = counter("clock 10; signal 0 10;");
            x.runTo(1990000);
            due(2000000, () -> x.timeOfEdge(1000));
            x.runTo(1990010);
            due("2000000 -1", () -> x.timeOfEdge(999) + " " + x.timeOfEdge(1000));
            x.runTo(2000000);
            due(-1, () -> x.timeOfEdge(1));
            GateCounter y = counter("clock 10; signal 0 10; signal 31 0;");
            due("30 -1", () -> y.timeOfEdge(3) + " " + y.timeOfEdge(4));
        });
        section("Promise 23");
        holds("n: 1 to 1000: 1 for the next one, and so on", () -> {
            range(1, 1000, (x, n) -> x.timeOfClock(n));
            due("10 20 10000", () -> new GateCounter().timeOfClock(1) + " " + new GateCounter().timeOfClock(2) + " "
                + new GateCounter().timeOfClock(1000));
        });
        holds("Throws IllegalArgumentException if n is out of range", () -> due(ILLEGAL, () -> new GateCounter().timeOfClock(0)));
        holds("Returns the time; NONE if it does not come up to the time 2000000.", () -> {
            GateCounter x = new GateCounter();
            x.runTo(1990000);
            due(2000000, () -> x.timeOfClock(1000));
            x.runTo(1990010);
            due("2000000 -1", () -> x.timeOfClock(999) + " " + x.timeOfClock(1000));
            x.runTo(2000000);
            due("2000010 -1", () -> x.state(0) + " " + x.timeOfClock(1));
        });
    }

    private static void steps() {
        section("Promise 24");
        holds("the greatest less the least number of ticks from a clock edge to the next one, of the next ones.", () -> {
            // Steps of 9 and 10, of 10 and 11, and of 10 alone.
            due("1 1 0", () -> counter("clock 10 drift -99;").wobble(1000) + " " + counter("clock 10 drift 99;").wobble(1000) + " "
                + new GateCounter().wobble(1000));
            // The first step is of 9; from the 600th on DRIFT is above 0, and between the 800th and the 900th there is one of 11.
            due("1 2", () -> counter("clock 10 drift -5 age 1;").wobble(800) + " " + counter("clock 10 drift -5 age 1;").wobble(900));
        });
        holds("n: 1 to 1000: how many such steps, the first one from the next clock edge on", () -> {
            range(1, 1000, (x, n) -> x.wobble(n));
            // One step has nothing to differ from. The 20th step is the first one of 11 ticks.
            due("0 0 1 1", () -> wobble(1) + " " + wobble(19) + " " + wobble(20) + " " + wobble(1000));
            // The step to the next clock edge, which is of 9 ticks, is not among them, but the one behind that is.
            GateCounter x = counter("clock 10 drift -1;");
            due(1, () -> x.wobble(2));
            x.runTo(10);
            due(0, () -> x.wobble(999));
            due(1, () -> x.wobble(1000));
        });
        holds("Throws IllegalArgumentException if n is out of range", () -> due(ILLEGAL, () -> new GateCounter().wobble(0)));
        holds("Returns the difference; NONE if the last of these clock edges does not come up to the time 2000000.", () -> {
            GateCounter x = new GateCounter();
            x.runTo(1989990);
            due("0", () -> x.wobble(1000));
            x.runTo(1990000);
            due("0 -1", () -> x.wobble(999) + " " + x.wobble(1000));
            x.runTo(1999989);
            due("0 -1", () -> x.wobble(1) + " " + x.wobble(2));
            x.runTo(1999990);
            due(-1, () -> x.wobble(1));
            x.runTo(2000000);
            due(-1, () -> x.wobble(1));
        });
        section("Promise 25");
        holds("drift: -99 to 99", () -> range(-99, 99, (x, drift) -> x.clocksTo(drift)));
        holds("Throws IllegalArgumentException if drift is out of range", () -> due(ILLEGAL, () -> new GateCounter().clocksTo(100)));
        holds("Returns how many clock edges; 0 if it is so now; NONE if AGE does not bring it there (it comes with each 100th of all clock edges).", () -> {
            GateCounter x = counter("clock 10 drift 5 age 1;");
            due("0 100 9400 -1", () -> x.clocksTo(5) + " " + x.clocksTo(6) + " " + x.clocksTo(99) + " " + x.clocksTo(4));
            x.runTo(990);
            due("0 1 101", () -> x.clocksTo(5) + " " + x.clocksTo(6) + " " + x.clocksTo(7));
            x.runTo(1004);
            due("100 0 100 -1", () -> x.count(1) + " " + x.clocksTo(6) + " " + x.clocksTo(7) + " " + x.clocksTo(5));
            x.set(2, -1);
            due("0 100 10500 -1", () -> x.clocksTo(6) + " " + x.clocksTo(5) + " " + x.clocksTo(-99) + " " + x.clocksTo(7));
            x.set(2, 0);
            due("0 -1 -1 -1 -1", () -> x.clocksTo(6) + " " + x.clocksTo(5) + " " + x.clocksTo(7) + " " + x.clocksTo(-99) + " " + x.clocksTo(99));
            // At its ends, beyond which AGE does not bring it.
            due("0 -1 -1", () -> counter("clock 10 drift 99 age 1;").clocksTo(99) + " " + counter("clock 10 drift 99 age 1;").clocksTo(98)
                + " " + counter("clock 10 drift 99 age 1;").clocksTo(-99));
            due("0 19800", () -> counter("clock 10 drift -99 age 1;").clocksTo(-99) + " " + counter("clock 10 drift -99 age 1;").clocksTo(99));
            // AGE brings it there, though the time of that is above 2000000.
            due(19800, () -> counter("clock 999 drift -99 age 1;").clocksTo(99));
            GateCounter y = counter("clock 10; signal 0 1;");
            y.runTo(2000000);
            y.set(2, 1);
            due("100 9900", () -> y.clocksTo(1) + " " + y.clocksTo(99));
        });
    }

    private static int wobble(int n) {
        return counter("clock 10 drift 50;").wobble(n);
    }

    private static void running() {
        section("Promise 45");
        holds("ticks: 1 to 100000", () -> range(1, 100000, (x, ticks) -> x.run(ticks)));
        holds("Throws IllegalArgumentException if ticks is out of range", () -> {
            // Also where the time would be too great: this is told first.
            GateCounter x = new GateCounter();
            x.runTo(2000000);
            leaves(x, ILLEGAL, () -> x.run(0));
            leaves(x, ILLEGAL, () -> x.run(100001));
            leaves(x, ILLEGAL, () -> x.run(Integer.MAX_VALUE));
        });
        holds("Throws IllegalStateException if the time would be above 2000000", () -> {
            GateCounter x = new GateCounter();
            x.runTo(1950000);
            leaves(x, STATE, () -> x.run(100000));
            leaves(x, STATE, () -> x.run(50001));
            due(0, () -> x.run(50000));
            due(2000000, () -> x.count(0));
            leaves(x, STATE, () -> x.run(1));
        });
        holds("Returns how many edges came.", () -> {
            GateCounter x = counter("clock 10; prescale 2; signal 4 7;");
            due("0 1 0 1", () -> x.run(10) + " " + x.run(1) + " " + x.run(6) + " " + x.run(1));
            due("2 100", () -> pending().run(1) + " " + pending().run(99));
        });
        section("Promise 46");
        holds("Lets time pass up to some time (all that comes up to it).", () -> {
            // A segment, a clock edge and an edge of that time come, and nothing of the next tick.
            GateCounter x = counter("clock 10; signal 0 20; signal 41 1; signal 60 0;");
            x.runTo(40);
            due("40 4 2 2 3 1 0 0 1 ", () -> numbers(x));
            x.runTo(59);
            due("59 5 20 20 3 2 0 0 2 ", () -> numbers(x));
            x.runTo(60);
            due("60 6 20 20 3 3 0 0 3 ", () -> numbers(x));
        });
        holds("time: the time of now to 2000000", () -> {
            range(120, 2000000, (x, time) -> x.runTo(time));
            GateCounter x = new GateCounter();
            x.runTo(2000000);
            due(0, () -> x.runTo(2000000));
            leaves(x, ILLEGAL, () -> x.runTo(1999999));
        });
        holds("Throws IllegalArgumentException if time is out of range", () -> {
            due(ILLEGAL, () -> new GateCounter().runTo(-1));
            due(ILLEGAL, () -> new GateCounter().runTo(2000001));
        });
        holds("Returns how many outputs came.", () -> {
            GateCounter x = counter("clock 10; prescale 2; signal 4 7;");
            due("0 0 1 0", () -> x.runTo(11) + " " + x.runTo(17) + " " + x.runTo(18) + " " + x.runTo(18));
            due("1 2", () -> pending().runTo(20) + " " + pending().runTo(21));
        });
        section("Promise 47");
        holds("Lets time pass up to the next output, and nothing behind that.", () -> {
            GateCounter x = counter("clock 10; prescale 2; signal 0 5; signal 10 5; signal 20 0;");
            // The edge of 10 is dropped: 5 and 15 are the first two; the next clock edge and segment are not to come yet.
            due(15, () -> x.waitOutput());
            due("15 1 2 1 3 2 0 0 1 ", () -> numbers(x));
            due("20 0 5 20 0 20 ", () -> states(x));
            GateCounter y = pending();
            due("20 20 21", () -> y.waitOutput() + " " + y.count(0) + " " + y.state(3));
        });
        holds("Returns the time; NONE if it is refused (late or silent, as by period).", () -> {
            GateCounter x = new GateCounter();
            refused(x, GateCounter.SILENT, () -> x.waitOutput());
            x.addSegment(1999999, 1);
            due("2000000 0", () -> x.waitOutput() + " " + x.reason());
            refused(x, GateCounter.LATE, () -> x.waitOutput());
            x.undo();
            x.undo();
            x.addSegment(1999999, 2);
            refused(x, GateCounter.LATE, () -> x.waitOutput());
            x.undo();
            // PERIOD is above 0 now, but not behind all that comes, and the other way round.
            x.addSegment(10, 100);
            x.addSegment(50, 0);
            x.runTo(20);
            refused(x, GateCounter.SILENT, () -> x.waitOutput());
            x.runTo(60);
            refused(x, GateCounter.SILENT, () -> x.waitOutput());
            x.addSegment(1995000, 9999);
            refused(x, GateCounter.LATE, () -> x.waitOutput());
            // An edge comes, but too few of them for an output.
            GateCounter y = counter("clock 10; prescale 4; signal 0 1; signal 4 0;");
            refused(y, GateCounter.SILENT, () -> y.waitOutput());
            y.setPrescale(2);
            due("2 2", () -> y.waitOutput() + " " + y.count(0));
        });
    }

    private static void settings() {
        section("Promise 52");
        holds("Sets P; the count of the prescaler is 0 then.", () -> {
            GateCounter x = counter("clock 10; prescale 8; signal 0 1;");
            x.runTo(5);
            due(5, () -> x.state(4));
            due(8, () -> x.setPrescale(8));
            due("0 5 0", () -> x.state(4) + " " + x.count(2) + " " + x.count(3));
            x.runTo(12);
            due("7 12 0", () -> x.state(4) + " " + x.count(2) + " " + x.count(3));
            // A P that the count has passed already.
            due(8, () -> x.setPrescale(2));
            due("0 2", () -> x.state(4) + " " + x.setting(3));
            // What was counted and what is to come stays.
            x.runTo(17);
            due("17 1 17 2 1 1 0 0 5 ", () -> numbers(x));
            due(2, () -> x.setPrescale(16));
            due("17 1 17 2 1 1 0 0 6 ", () -> numbers(x));
            due("20 0 1 18 0 -1 ", () -> states(x));
        });
        holds("p: 1, 2, 4, 8 or 16", () -> {
            GateCounter x = new GateCounter();
            due("1 1 2 4 8 16", () -> x.setPrescale(1) + " " + x.setPrescale(2) + " " + x.setPrescale(4) + " " + x.setPrescale(8) + " "
                + x.setPrescale(16) + " " + x.setPrescale(16));
        });
        holds("Throws IllegalArgumentException if it may not be", () -> {
            int[] wrong = {Integer.MIN_VALUE, -16, -1, 0, 3, 5, 6, 7, 9, 12, 15, 17, 32, 64, Integer.MAX_VALUE};
            for (int p : wrong) {
                GateCounter x = lived();
                leaves(x, ILLEGAL, () -> x.setPrescale(p));
            }
        });
        section("Promise 53");
        holds("what: 1, 2, 4, 5 or 6 as for setting()", () -> {
            GateCounter x = new GateCounter();
            due("0 0 10 1 0", () -> x.set(1, 1) + " " + x.set(2, 1) + " " + x.set(4, 1) + " " + x.set(5, 2) + " " + x.set(6, 1));
            due("10,1,1,1,1,2,1", () -> settings(x));
        });
        holds("value: a value in its range (CORRECTION: -99 to 99)", () -> {
            range(-99, 99, (x, value) -> x.set(1, value));
            range(-1, 1, (x, value) -> x.set(2, value));
            range(1, 9999, (x, value) -> x.set(4, value));
            range(1, 999, (x, value) -> x.set(5, value));
            range(-99, 99, (x, value) -> x.set(6, value));
            GateCounter x = new GateCounter();
            x.set(1, -99);
            x.set(2, -1);
            x.set(4, 9999);
            x.set(5, 999);
            x.set(6, -99);
            due("10,-99,-1,1,9999,999,-99", () -> settings(x));
        });
        holds("Throws IllegalArgumentException if what or value is out of range", () -> {
            int[] whats = {Integer.MIN_VALUE, -1, 0, 3, 7, Integer.MAX_VALUE};
            for (int what : whats) {
                GateCounter x = lived();
                leaves(x, ILLEGAL, () -> x.set(what, 1));
            }
        });
        holds("the time of the next clock edge stays.", () -> {
            GateCounter x = counter("clock 10 drift 60;");
            x.runTo(15);
            x.set(1, -90);
            due("20 60", () -> x.state(0) + " " + x.state(1));
            x.runTo(20);
            due("29 970", () -> x.state(0) + " " + x.state(1));
        });
    }

    private static void segments() {
        section("Promise 54");
        holds("time: its time: above the time of now and that of all other segments, up to 1999999", () -> {
            // Of one that lived the time is 120, and the segments' greatest time 500.
            range(501, 1999999, (x, time) -> x.addSegment(time, 1));
            GateCounter x = counter("clock 10; signal 5 3;");
            leaves(x, ILLEGAL, () -> x.addSegment(5, 1));
            due(1, () -> x.addSegment(6, 1));
            x.runTo(50);
            leaves(x, ILLEGAL, () -> x.addSegment(50, 1));
            due(2, () -> x.addSegment(51, 1));
            leaves(x, ILLEGAL, () -> x.addSegment(2000000, 1));
            due(3, () -> x.addSegment(1999999, 1));
            leaves(x, ILLEGAL, () -> x.addSegment(1999999, 1));
            // Without segments: that of the time of now came already, and behind 1999998 none is possible.
            GateCounter y = new GateCounter();
            leaves(y, ILLEGAL, () -> y.addSegment(0, 1));
            due(0, () -> y.addSegment(1, 1));
            y.undo();
            y.runTo(1999999);
            leaves(y, ILLEGAL, () -> y.addSegment(1999999, 1));
            leaves(y, ILLEGAL, () -> y.addSegment(2000000, 1));
        });
        holds("period: its PERIOD, 0 to 9999", () -> range(0, 9999, (x, period) -> x.addSegment(501, period)));
        holds("Throws IllegalArgumentException if time or period is out of range", () -> {
            // Also where there are 8: this is told first.
            GateCounter x = full();
            leaves(x, ILLEGAL, () -> x.addSegment(8, 1));
            leaves(x, ILLEGAL, () -> x.addSegment(2000000, 1));
            leaves(x, ILLEGAL, () -> x.addSegment(9, -1));
            leaves(x, ILLEGAL, () -> x.addSegment(9, 10000));
        });
        holds("Throws IllegalStateException if there are 8", () -> {
            GateCounter x = full();
            leaves(x, STATE, () -> x.addSegment(9, 1));
            x.runTo(1000);
            leaves(x, STATE, () -> x.addSegment(1001, 1));
            GateCounter y = full();
            y.dropSegment();
            due(7, () -> y.addSegment(9, 1));
            leaves(y, STATE, () -> y.addSegment(10, 1));
        });
        section("Promise 55");
        holds("Drops the segment with the greatest time, if it has not come.", () -> {
            GateCounter x = full();
            x.runTo(7);
            due(7, () -> x.dropSegment());
            due("1/1* 2/1* 3/1* 4/1* 5/1* 6/1* 7/1*", () -> signal(x));
            // One of the time 0 has not come yet as long as no time passes.
            GateCounter y = counter("clock 10; signal 0 10;");
            due("0 0", () -> y.dropSegment() + " " + y.edgesIn(1000));
        });
        holds("Throws IllegalStateException if there is none that has not come", () -> {
            GateCounter x = new GateCounter();
            leaves(x, STATE, () -> x.dropSegment());
            GateCounter y = full();
            y.runTo(8);
            leaves(y, STATE, () -> y.dropSegment());
            GateCounter z = counter("clock 10; signal 0 10;");
            z.runTo(0);
            leaves(z, STATE, () -> z.dropSegment());
        });
    }

    /** One with 8 segments. */
    private static GateCounter full() {
        return counter("clock 10; signal 1 1; signal 2 1; signal 3 1; signal 4 1; signal 5 1; signal 6 1; signal 7 1; signal 8 1;");
    }
}
