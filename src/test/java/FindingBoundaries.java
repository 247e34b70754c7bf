/** Boundary cases of the promises that forecast measurements and find what settings would be best. */
final class FindingBoundaries extends Sentences {
    private FindingBoundaries() {
    }

    static void all() {
        forecasts();
        ideals();
        digits();
        longest();
        near();
        prescales();
        corrections();
    }

    private static GateCounter at(String text, int time) {
        GateCounter x = counter(text);
        x.runTo(time);
        return x;
    }

    private static void forecasts() {
        section("Promise 26");
        holds("Throws IllegalArgumentException if what is out of range", () -> {
            range(0, 7, (x, what) -> x.byGate(what));
            // Also where it would be refused.
            GateCounter x = at(SEVEN, 2000000);
            leaves(x, ILLEGAL, () -> x.byGate(8));
        });
        holds("Returns what measurement() would tell of it if it was made now; NONE if it is refused.", () -> {
            GateCounter x = at("clock 10; signal 0 10; gate 5;", 1999949);
            due("0 1999950 2000000 5 100000 1 5 0 ", () -> byGate(x));
            x.runTo(1999950);
            due("-1 -1 -1 -1 -1 -1 -1 -1 ", () -> byGate(x));
            due(0, () -> x.reason());
            x.runTo(2000000);
            due("-1 -1 -1 -1 -1 -1 -1 -1 ", () -> byGate(x));
            // One with full 20 that are kept, which stay.
            GateCounter y = counter("clock 10; signal 0 10; gate 1;");
            for (int i = 0; i < 20; i++) {
                y.gate();
            }
            leaves(y, "0 410 420 1 100000 1 1 0 ", () -> byGate(y));
        });
        section("Promise 27");
        holds("Throws IllegalArgumentException if what is out of range", () -> {
            range(0, 7, (x, what) -> x.byPeriod(what));
            GateCounter x = at(SEVEN, 2000000);
            leaves(x, ILLEGAL, () -> x.byPeriod(-1));
        });
        holds("Returns what measurement() would tell of it if it was made now; NONE if it is refused.", () -> {
            GateCounter x = at("clock 10; signal 0 10; periods 5;", 1999949);
            due("1 1999950 2000000 5 100000 1 5 0 ", () -> byPeriod(x));
            x.runTo(1999950);
            leaves(x, "-1 -1 -1 -1 -1 -1 -1 -1 ", () -> byPeriod(x));
            // Silent, and short.
            due("-1 -1 -1 -1 -1 -1 -1 -1 ", () -> byPeriod(new GateCounter()));
            due("-1 -1 -1 -1 -1 -1 -1 -1 ", () -> byPeriod(counter("clock 10; signal 10 2; periods 3;")));
            due("1 12 20 1 400000 1 4 0 ", () -> byPeriod(counter("clock 10; signal 10 2; periods 4;")));
        });
        section("Promise 31");
        holds("Returns the difference of the values of a measurement by gate and of one by period, each made now, without sign; NONE if one is "
            + "refused.", () -> {
            // By gate 140000; by period 200000, 150000 and 140000 with 2, 3 and 7 periods, and none with 1.
            due("60000 10000 0 -1", () -> apart(2) + " " + apart(3) + " " + apart(7) + " " + apart(1));
            due(-1, () -> new GateCounter().apart());
            // By gate alone it is refused, and then both are.
            GateCounter x = at("clock 10; signal 0 10; gate 9;", 1999950);
            due("-1 100000 -1", () -> x.byGate(4) + " " + x.byPeriod(4) + " " + x.apart());
            x.runTo(2000000);
            leaves(x, -1, () -> x.apart());
        });
    }

    private static int apart(int periods) {
        GateCounter x = counter(SEVEN);
        x.set(5, periods);
        return x.apart();
    }

    private static String byGate(GateCounter x) {
        return answers(x, 0, 7, (y, what) -> y.byGate(what));
    }

    private static String byPeriod(GateCounter x) {
        return answers(x, 0, 7, (y, what) -> y.byPeriod(what));
    }

    private static String answers(GateCounter x, int first, int last, Call call) {
        StringBuilder text = new StringBuilder();
        for (int number = first; number <= last; number++) {
            text.append(call.of(x, number)).append(' ');
        }
        return text.toString();
    }

    private static void ideals() {
        section("Promise 29");
        holds("would be if DRIFT, AGE, REST and CORRECTION were 0 (the time of the next clock edge stays).", () -> {
            // Each of them alone changes the value, but not the ideal one.
            due("990000 1000000", () -> realAndIdeal(counter("clock 10 drift -99; signal 0 1; gate 40;")));
            due("1000950 1000000", () -> realAndIdeal(counter("clock 10 age 1; signal 0 1; gate 2000;")));
            GateCounter x = at("clock 10 drift 99; signal 0 1; gate 1;", 100);
            x.set(1, 10);
            // REST is 990, and with 10 it makes 1000: from 110 on 11 ticks.
            due("1100000 1000000", () -> realAndIdeal(x));
            GateCounter y = counter("clock 10; signal 0 1; gate 40;");
            y.set(6, 99);
            due("909918 1000000", () -> realAndIdeal(y));
            // The next clock edge is at 19, as the first step is of 9 ticks; with 20 there would be no edge, and no clock edge, between.
            due(100000, () -> at("clock 10 drift -1; signal 9 10; signal 20 0; gate 1;", 10).idealValue(false));
            due(100000, () -> at("clock 10 drift -1; signal 17 1; periods 1;", 10).idealValue(true));
        });
        holds("Returns the value; NONE if it is refused.", () -> {
            // It is refused as it would be if it was ideal, not as it is.
            GateCounter x = at("clock 10; signal 0 10; gate 100;", 1998990);
            x.set(1, 99);
            due("-1 100000", () -> realAndIdeal(x));
            x.set(1, -99);
            x.set(4, 101);
            due("99009 -1", () -> realAndIdeal(x));
            x.runTo(2000000);
            leaves(x, -1, () -> x.idealValue(false));
            leaves(x, -1, () -> x.idealValue(true));
            due(-1, () -> new GateCounter().idealValue(true));
            // From 18 to 19 the clock edge of 19, which would be at 20.
            GateCounter y = counter("clock 10 drift -99; signal 17 1;");
            due("100000 -1", () -> y.byPeriod(4) + " " + y.idealValue(true));
        });
    }

    private static String realAndIdeal(GateCounter x) {
        return x.byGate(4) + " " + x.idealValue(false);
    }

    private static void digits() {
        section("Promise 32");
        holds("digits: 1 to 6", () -> range(1, 6, (x, digits) -> x.gateFor(digits)));
        holds("Throws IllegalArgumentException if digits is out of range", () -> due(ILLEGAL, () -> at(SEVEN, 2000000).gateFor(7)));
        holds("Finds the least GATE with which a measurement by gate, made now, would have some digits or more.", () -> {
            // One more edge a clock edge.
            GateCounter x = counter("clock 10; signal 0 10;");
            due("1 10 100 1000 -1 -1", () -> gatesFor(x));
            // 10 edges a clock edge: with the least GATE there are two digits already.
            due("1 1 10 100 1000 -1", () -> gatesFor(counter("clock 10; signal 0 1;")));
            // 100 of them.
            due("1 1 1 10 100 1000", () -> gatesFor(counter("clock 100; signal 0 1;")));
            x.set(4, 9999);
            due("1 10 100 1000 -1 -1", () -> gatesFor(x));
            // The 998 edges ahead of the opening don't count: between the first two clock edges there are 999.
            due("1 1 1 2 11 101", () -> gatesFor(counter("clock 999; signal 0 1;")));
        });
        holds("Returns 1 to 9999; NONE if there is none that is not refused.", () -> {
            // From 99981 on at each tick: the gate of 9998 closes at 99990, with 9 edges, and that of 9999 at 100000.
            due("9998 9999 -1 -1 -1 -1", () -> gatesFor(counter("clock 10; signal 99980 1;")));
            due("9999 -1 -1 -1 -1 -1", () -> gatesFor(counter("clock 10; signal 99989 1; signal 99991 0;")));
            due("-1 -1 -1 -1 -1 -1", () -> gatesFor(counter("clock 10; signal 99999 1;")));
            due("-1 -1 -1 -1 -1 -1", () -> gatesFor(new GateCounter()));
            // Closing at 2000000 with 10 edges, and with 9.
            due("1 10 -1 -1 -1 -1", () -> gatesFor(at("clock 10; signal 0 10;", 1999899)));
            due("1 -1 -1 -1 -1 -1", () -> gatesFor(at("clock 10; signal 0 10;", 1999900)));
            due("-1 -1 -1 -1 -1 -1", () -> gatesFor(at("clock 10; signal 0 10;", 1999990)));
            due("-1 -1 -1 -1 -1 -1", () -> gatesFor(at("clock 10; signal 0 10;", 2000000)));
        });
        section("Promise 33");
        holds("digits: 1 to 6", () -> range(1, 6, (x, digits) -> x.periodsFor(digits)));
        holds("Throws IllegalArgumentException if digits is out of range", () -> due(ILLEGAL, () -> at(SEVEN, 2000000).periodsFor(0)));
        holds("Finds the least number of PERIODS with which a measurement by period, made now, would have some digits or more.", () -> {
            due("1 10 100 -1 -1 -1", () -> periodsFor(counter("clock 10; signal 0 10;")));
            due("1 1 10 100 -1 -1", () -> periodsFor(counter("clock 10; signal 0 100;")));
            // The 99 clock edges ahead of the beginning don't count.
            due("1 3 25 250 -1 -1", () -> periodsFor(at("clock 10; signal 951 40;", 5)));
            // The first period is too short to have a clock edge.
            due("2 15 143 -1 -1 -1", () -> periodsFor(counter(SEVEN)));
        });
        holds("Returns 1 to 999; NONE if there is none that is not refused.", () -> {
            // From 1 to 999 there are 99 clock edges, and up to 1000 100. From 10 on it would take 1000 periods.
            due("9 99 999 -1 -1 -1", () -> periodsFor(counter("clock 10; signal 0 1;")));
            due("10 100 -1 -1 -1 -1", () -> periodsFor(counter("clock 10; signal 9 1;")));
            due("-1 -1 -1 -1 -1 -1", () -> periodsFor(new GateCounter()));
            // Ending at 2000000 with 10 clock edges, and with 9.
            due("1 10 -1 -1 -1 -1", () -> periodsFor(at("clock 10; signal 0 10;", 1999899)));
            due("1 -1 -1 -1 -1 -1", () -> periodsFor(at("clock 10; signal 0 10;", 1999900)));
            due("-1 -1 -1 -1 -1 -1", () -> periodsFor(at("clock 10; signal 0 10;", 1999990)));
            due("-1 -1 -1 -1 -1 -1", () -> periodsFor(at("clock 10; signal 0 10;", 2000000)));
            // Short, whatever PERIODS is; one output alone.
            due("-1 -1 -1 -1 -1 -1", () -> periodsFor(counter("clock 999; signal 990 9; signal 1017 0;")));
            due("-1 -1 -1 -1 -1 -1", () -> periodsFor(counter("clock 10; signal 0 10; signal 20 0;")));
        });
    }

    private static String gatesFor(GateCounter x) {
        return answers(x, 1, 6, (y, digits) -> y.gateFor(digits)).strip();
    }

    private static String periodsFor(GateCounter x) {
        return answers(x, 1, 6, (y, digits) -> y.periodsFor(digits)).strip();
    }

    private static void longest() {
        section("Promise 34");
        holds("Finds the greatest GATE with which a measurement by gate, made now, would not be refused.", () -> {
            // From 1900010 up to 2000000 there are 9999 more clock edges; a time ahead of that has more, but 9999 is the greatest GATE.
            due("9999 9999 9999 9998", () -> longestGate(1899999) + " " + longestGate(1900000) + " " + longestGate(1900009) + " "
                + longestGate(1900010));
        });
        holds("Returns 1 to 9999; NONE if there is none.", () -> {
            due(9999, () -> longestGate(0));
            due("2 1 1 -1 -1 -1", () -> longestGate(1999970) + " " + longestGate(1999980) + " " + longestGate(1999989) + " "
                + longestGate(1999990) + " " + longestGate(1999999) + " " + longestGate(2000000));
            // GATE as it is does not matter, and with 9999 it is refused.
            GateCounter x = at("clock 10; gate 9999;", 1999970);
            leaves(x, 2, () -> x.longestGate());
        });
        section("Promise 35");
        holds("Finds the greatest number of PERIODS with which a measurement by period, made now, would not be refused.", () -> {
            due("999 999 999 998", () -> mostPeriods(1989999) + " " + mostPeriods(1990000) + " " + mostPeriods(1990009) + " "
                + mostPeriods(1990010));
            // Short with 1 to 3 of them, so 4 are the only ones.
            due(4, () -> counter("clock 10; signal 10 2; signal 21 0;").mostPeriods());
        });
        holds("Returns 1 to 999; NONE if there is none.", () -> {
            due(999, () -> mostPeriods(0));
            due("2 1 1 -1 -1 -1", () -> mostPeriods(1999970) + " " + mostPeriods(1999980) + " " + mostPeriods(1999989) + " "
                + mostPeriods(1999990) + " " + mostPeriods(1999999) + " " + mostPeriods(2000000));
            due(-1, () -> new GateCounter().mostPeriods());
            // Two outputs, without a clock edge between and with one; one output alone; PERIODS as it is does not matter.
            due("-1 1", () -> counter("clock 999; signal 990 9; signal 1017 0;").mostPeriods() + " "
                + counter("clock 999; signal 980 10; signal 1010 0;").mostPeriods());
            due(-1, () -> counter("clock 10; signal 0 10; signal 20 0;").mostPeriods());
            due(1, () -> counter("clock 10; signal 0 10; signal 30 0; periods 999;").mostPeriods());
        });
    }

    private static int longestGate(int time) {
        return at("clock 10;", time).longestGate();
    }

    private static int mostPeriods(int time) {
        return at("clock 10; signal 0 10;", time).mostPeriods();
    }

    private static void near() {
        section("Promise 36");
        holds("tolerance: 0 to 2000000", () -> range(0, 2000000, (x, tolerance) -> x.gateNear(tolerance)));
        holds("Throws IllegalArgumentException if tolerance is out of range", () -> due(ILLEGAL, () -> new GateCounter().gateNear(-1)));
        holds("Finds the least GATE with which the value of a measurement by gate would differ from that of one by period (PERIODS as it is), "
            + "both made now, by at most a tolerance.", () -> {
            // By period 150000; by gate 200000 with 1 and 150000 with 2.
            GateCounter x = counter(SEVEN);
            due("2 2 1 1", () -> x.gateNear(0) + " " + x.gateNear(49999) + " " + x.gateNear(50000) + " " + x.gateNear(2000000));
            x.set(5, 7);
            // By period 140000; by gate 150000 with 2, 166666 with 3, 150000 with 4, and 140000 with 5.
            due("5 2 1", () -> x.gateNear(9999) + " " + x.gateNear(10000) + " " + x.gateNear(60000));
            // Behind some edges: by period from 67 to 88 150000; by gate 100000 with 1, of 74, and 150000 with 2, of 74, 81 and 88.
            x.set(5, 3);
            x.runTo(60);
            due("2 2 1", () -> x.gateNear(0) + " " + x.gateNear(49999) + " " + x.gateNear(50000));
            // CORRECTION counts for both.
            x.set(6, 99);
            due("2 2 1", () -> x.gateNear(0) + " " + x.gateNear(45495) + " " + x.gateNear(45496));
        });
        holds("Returns 1 to 9999; NONE if there is none, or the measurement by period is refused.", () -> {
            // By period 900000; by gate 9 edges of 9998 clock edges, 90, and 19 of 9999, 190.
            GateCounter x = counter("clock 10; signal 99980 1; periods 9;");
            due("900000 9999 -1", () -> x.byPeriod(4) + " " + x.gateNear(899810) + " " + x.gateNear(899809));
            due("1 9998", () -> x.gateNear(900000) + " " + x.gateNear(899999));
            // Silent, short, late; and no gate is possible, though a period is.
            due(-1, () -> new GateCounter().gateNear(2000000));
            due(-1, () -> counter("clock 10; signal 10 2; periods 3;").gateNear(2000000));
            due(-1, () -> at("clock 10; signal 0 10; periods 2;", 1999980).gateNear(2000000));
            GateCounter y = at("clock 10; signal 0 5;", 1999990);
            due("100000 -1", () -> y.byPeriod(4) + " " + y.gateNear(2000000));
        });
    }

    private static void prescales() {
        section("Promise 37");
        holds("Finds the P, set now (with its count 0, also the P that it is), with which a measurement by gate would have the greatest value.", () -> {
            GateCounter x = at("clock 10; prescale 8; signal 3 1; gate 1;", 6);
            // In the gate from 10 to 20 are the 4th to the 13th edge from now on: 10, 5 * 2, 3 * 4, 8 and 0. With the count of 3 that there is
            // they would be the 7th to the 16th, two of which are outputs.
            leaves(x, "1600000 4", () -> x.byGate(4) + " " + x.bestPrescale());
            due("8 3", () -> x.setting(3) + " " + x.state(4));
        });
        holds("Returns the P, the smallest one on a tie; NONE if all are refused.", () -> {
            due(1, () -> new GateCounter().bestPrescale());
            // The 2nd to the 11th edge from now on: 10, 5 * 2, 2 * 4 and 8. The 7th to the 16th: 10, 5 * 2, 3 * 4, 2 * 8 and 16.
            due(1, () -> at("clock 10; signal 8 1; gate 1;", 8).bestPrescale());
            due(8, () -> at("clock 10; signal 3 1; gate 1;", 3).bestPrescale());
            due(16, () -> counter("clock 10; signal 0 1; gate 1;").bestPrescale());
            GateCounter x = at("clock 10; signal 0 10; gate 1;", 1999989);
            due(1, () -> x.bestPrescale());
            x.runTo(1999990);
            leaves(x, -1, () -> x.bestPrescale());
        });
    }

    private static void corrections() {
        section("Promise 38");
        holds("value: 0 to 2000000", () -> range(0, 2000000, (x, value) -> x.correctionFor(value)));
        holds("Throws IllegalArgumentException if value is out of range", () -> {
            // Also where it is refused.
            GateCounter x = at(SEVEN, 2000000);
            due(ILLEGAL, () -> x.correctionFor(-1));
            due(ILLEGAL, () -> x.correctionFor(2000001));
        });
        holds("Returns -99 to 99, the smallest one on a tie; NONE - 99 if it is refused.", () -> {
            GateCounter x = counter(SEVEN);
            due("99 -99 99 -99", () -> x.correctionFor(0) + " " + x.correctionFor(2000000) + " " + x.correctionFor(127388) + " "
                + x.correctionFor(155382));
            // -1 tells 140140, and 0 tells 140000, so 140070 is between; 98 tells 127504, and 99 tells 127388.
            due("-1 0 0", () -> x.correctionFor(140070) + " " + x.correctionFor(140069) + " " + x.correctionFor(140000));
            due("98 99", () -> x.correctionFor(127446) + " " + x.correctionFor(127445));
            // Each one by the value that it brings.
            for (int correction = -99; correction <= 99; correction++) {
                x.set(6, correction);
                due(correction, () -> x.correctionFor(x.byGate(4)));
            }
            due(-99, () -> new GateCounter().correctionFor(2000000));
            x.runTo(1999940);
            due(0, () -> x.correctionFor(140000));
            x.runTo(1999950);
            leaves(x, -100, () -> x.correctionFor(140000));
        });
    }
}
