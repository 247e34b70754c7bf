/** Boundary cases of the measurements that are kept, of changes and undoing, of the output and of saving. */
final class KeepingBoundaries extends Sentences {
    private KeepingBoundaries() {
    }

    static void all() {
        section("Terms");
        changes();
        throwing();
        otherCorrections();
        averages();
        shares();
        dropping();
        undoing();
        printing();
        output();
        saving();
    }

    private interface Change {
        void on(GateCounter x);
    }

    private static void changes() {
        holds("Changes are the methods whose description says so, if they succeed, also if nothing is different then;", () -> {
            Change[] changes = {x -> x.run(1), x -> x.runTo(x.count(0)), x -> x.waitOutput(), x -> x.gate(), x -> x.period(), x -> x.choose(),
                x -> x.calibrate(100), x -> x.setPrescale(1), x -> x.set(4, 5), x -> x.addSegment(501, 1), x -> x.dropSegment(), x -> x.drop(0)};
            for (Change change : changes) {
                GateCounter x = lived();
                change.on(x);
                due(4, () -> x.count(8));
                GateCounter y = lived();
                String before = held(y);
                change.on(y);
                due(3, () -> y.undo());
                due(before, () -> held(y));
            }
            // Nothing is different.
            Change[] idle = {x -> x.runTo(120), x -> x.setPrescale(1), x -> x.set(1, 0), x -> x.set(2, 0), x -> x.set(4, 5), x -> x.set(5, 3),
                x -> x.set(6, 0)};
            for (Change change : idle) {
                GateCounter x = lived();
                change.on(x);
                due(4, () -> x.count(8));
            }
        });
        holds("one that is refused (which it tells by NONE) is none, and sets the reasons.", () -> {
            Call[] calls = {(x, n) -> x.waitOutput(), (x, n) -> x.gate(), (x, n) -> x.period(), (x, n) -> x.choose(), (x, n) -> x.calibrate(1)};
            for (Call call : calls) {
                GateCounter x = counter(SEVEN);
                x.runTo(2000000);
                refused(x, GateCounter.LATE, () -> call.of(x, 0));
                due("1 0", () -> x.count(8) + " " + x.undo());
            }
        });
        holds("undo() and restoreState() bring counts back, too.", () -> {
            GateCounter x = lived();
            String counts = "120 12 16 16 2 1 2 2 ";
            due(counts, () -> numbers(x).substring(0, counts.length()));
            x.saveState();
            x.gate();
            x.undo();
            due(counts, () -> numbers(x).substring(0, counts.length()));
            x.gate();
            x.run(1000);
            x.drop(0);
            x.restoreState();
            due(counts, () -> numbers(x).substring(0, counts.length()));
        });
        holds("At most 8 changes are kept to be undone: a further one puts the oldest of them away for good;", () -> {
            for (int made = 1; made <= 20; made++) {
                GateCounter x = new GateCounter();
                int kept = Math.min(8, made);
                for (int i = 1; i <= made; i++) {
                    x.set(4, 100 + i);
                }
                due(kept, () -> x.count(8));
                for (int left = kept - 1; left >= 0; left--) {
                    int before = 100 + made - kept + left;
                    String want = left + " " + (before == 100 ? 10 : before);
                    due(want, () -> x.undo() + " " + x.setting(4));
                }
                due(NONE_SUCH, () -> x.undo());
            }
        });
        holds("one that was undone is kept no more.", () -> {
            GateCounter x = new GateCounter();
            for (int i = 1; i <= 8; i++) {
                x.set(4, 100 + i);
            }
            due("7 6 5", () -> x.undo() + " " + x.undo() + " " + x.undo());
            due(105, () -> x.setting(4));
            x.set(4, 200);
            due("6 5 105", () -> x.count(8) + " " + x.undo() + " " + x.setting(4));
            due("4 104", () -> x.undo() + " " + x.setting(4));
            for (int i = 1; i <= 5; i++) {
                x.set(4, 300 + i);
            }
            due("8 103", () -> {
                int changes = x.count(8);
                for (int i = 0; i < 6; i++) {
                    x.undo();
                }
                return changes + " " + x.setting(4);
            });
        });
        holds("Questions change nothing.", () -> {
            GateCounter x = lived();
            leaves(x, "", () -> {
                askEverything(x);
                return "";
            });
            due("2 120", () -> x.undo() + " " + x.restoreState());
            // With nothing at all, with an edge that is still to come, with all 20 that are kept, and at the end.
            GateCounter[] others = {new GateCounter(), counter("clock 10; signal 0 10; gate 3;"), counter("clock 10; signal 0 1; gate 1;"),
                counter(SEVEN)};
            others[1].gate();
            for (int i = 0; i < 25; i++) {
                others[2].gate();
            }
            others[3].runTo(2000000);
            for (GateCounter other : others) {
                leaves(other, "", () -> {
                    askEverything(other);
                    return "";
                });
            }
        });
    }

    private static void throwing() {
        holds("If several exceptions apply to a call, the one that is listed first is thrown.", () -> {
            GateCounter x = counter("clock 10; signal 1 1; signal 2 1; signal 3 1; signal 4 1; signal 5 1; signal 6 1; signal 7 1; signal 8 1;");
            x.runTo(1999999);
            due(BOUNDS, () -> x.segment(8, 2));
            due(BOUNDS, () -> x.measurement(0, 8));
            due(BOUNDS, () -> x.valueWith(0, 100));
            due(ILLEGAL, () -> x.run(100001));
            due(ILLEGAL, () -> x.addSegment(2000000, 1));
            due(ILLEGAL, () -> x.addSegment(2000000, -1));
        });
        holds("A method that throws changes nothing.", () -> {
            GateCounter x = lived();
            callAllThatThrow(x);
            GateCounter y = counter(SEVEN);
            y.runTo(2000000);
            callAllThatThrow(y);
            leaves(y, STATE, () -> y.run(1));
            leaves(y, STATE, () -> y.dropSegment());
            leaves(y, NONE_SUCH, () -> y.restoreState());
            y.undo();
            leaves(y, NONE_SUCH, () -> y.undo());
        });
    }

    private static void otherCorrections() {
        section("Promise 39");
        holds("correction: -99 to 99", () -> range(-99, 99, (x, correction) -> x.valueWith(1, correction)));
        holds("Throws IndexOutOfBoundsException if there is no such measurement", () -> {
            index(2, (x, measurement) -> x.valueWith(measurement, 0));
            // It is told first.
            index(2, (x, measurement) -> x.valueWith(measurement, measurement < 0 || measurement > 1 ? 100 : 99));
            due(BOUNDS, () -> new GateCounter().valueWith(0, 0));
        });
        holds("Throws IllegalArgumentException if correction is out of range", () -> due(ILLEGAL, () -> lived().valueWith(0, -100)));
        holds("Tells what the value of a measurement that is kept would be with another CORRECTION (STEP and P as they are now).", () -> {
            GateCounter x = counter(SEVEN);
            x.gate();
            x.period();
            x.set(4, 9);
            x.set(5, 8);
            x.set(6, 7);
            due("127388 140000 155382", () -> x.valueWith(0, 99) + " " + x.valueWith(0, 0) + " " + x.valueWith(0, -99));
            due("136487 150000 166481", () -> x.valueWith(1, 99) + " " + x.valueWith(1, 0) + " " + x.valueWith(1, -99));
            x.setPrescale(16);
            due("2240000 2400000", () -> x.valueWith(0, 0) + " " + x.valueWith(1, 0));
            due("140000 150000", () -> x.measurement(0, 4) + " " + x.measurement(1, 4));
        });
    }

    /** One with a measurement by each CORRECTION: 0 tells 1000000, 50 952380, and -60 1063829. */
    private static GateCounter withCorrections(int... corrections) {
        GateCounter x = counter("clock 10; gate 1; signal 0 1;");
        for (int correction : corrections) {
            x.set(6, correction);
            x.gate();
        }
        return x;
    }

    private static void averages() {
        section("Promise 40");
        holds("Returns the mean; 0.0 without any.", () -> {
            due(0.0, () -> new GateCounter().meanValue());
            due(1000000.0, () -> withCorrections(0).meanValue());
            due(3016209.0 / 3.0, () -> withCorrections(0, 50, -60).meanValue());
            GateCounter x = withCorrections(0);
            x.drop(0);
            due(0.0, () -> x.meanValue());
            // All 20, and those of the latest 20 alone.
            GateCounter y = withCorrections(50, 0, 0, 0, 0, 0, 0, 0, 0, 0, 0, 0, 0, 0, 0, 0, 0, 0, 0, 0);
            due(19952380.0 / 20.0, () -> y.meanValue());
            y.gate();
            due(1000000.0, () -> y.meanValue());
        });
        section("Promise 41");
        holds("Returns the value in the middle of those of the measurements that are kept, by size; of two in the middle the lesser one.", () -> {
            due(1000000, () -> withCorrections(0).median());
            due("952380 952380", () -> withCorrections(0, 50).median() + " " + withCorrections(50, 0).median());
            due("1000000 1000000 1000000", () -> withCorrections(0, 50, -60).median() + " " + withCorrections(50, 0, -60).median() + " "
                + withCorrections(-60, 50, 0).median());
            due("952380 1000000", () -> withCorrections(-60, 50, 0, 50).median() + " " + withCorrections(-60, 50, 0, -60).median());
            due("1000000 1000000", () -> withCorrections(0, 0).median() + " " + withCorrections(0, 0, 0, 50).median());
            // Values that are 1 apart: an edge each in gates of 317, 316 and 315 clock edges.
            GateCounter y = counter("clock 10; signal 0 9999;");
            for (int i = 0; i < 3; i++) {
                y.runTo(10000 * i + 9985);
                y.set(4, 317 - i);
                y.gate();
            }
            due("315 316 317 316", () -> y.measurement(0, 4) + " " + y.measurement(1, 4) + " " + y.measurement(2, 4) + " " + y.median());
            y.drop(2);
            due(315, () -> y.median());
            // All 20, of which 10 are less.
            GateCounter x = withCorrections(50, 50, 50, 50, 50, 50, 50, 50, 50, 0, 0, 0, 0, 0, 0, 0, 0, 0, 0, 50);
            due("20 952380", () -> x.count(7) + " " + x.median());
            x.gate();
            due("20 952380", () -> x.count(7) + " " + x.median());
            x.set(6, 0);
            x.gate();
            due("20 1000000", () -> x.count(7) + " " + x.median());
        });
        holds("Returns the value; NONE without any.", () -> {
            due(-1, () -> new GateCounter().median());
            GateCounter x = withCorrections(0);
            x.drop(0);
            due(-1, () -> x.median());
            due(0, () -> {
                GateCounter y = new GateCounter();
                y.gate();
                return y.median();
            });
        });
        section("Promise 43");
        holds("Returns the greatest difference of the values of two measurements that are kept.", () ->
            due("63829 63829 111449 0", () -> withCorrections(0, -60).spread() + " " + withCorrections(-60, 0).spread() + " "
                + withCorrections(0, -60, 50).spread() + " " + withCorrections(7, 7).spread()));
        holds("Returns the difference; 0 with fewer than two.", () -> {
            due("0 0", () -> new GateCounter().spread() + " " + withCorrections(-60).spread());
            GateCounter x = withCorrections(0, 50);
            x.drop(1);
            due(0, () -> x.spread());
            x.drop(0);
            due(0, () -> x.spread());
        });
        section("Promise 44");
        holds("Returns number of the measurement, the latest one on a tie; NONE without any.", () -> {
            due(-1, () -> new GateCounter().sharpest());
            due("0 1 2", () -> withCorrections(0).sharpest() + " " + withCorrections(0, 0).sharpest() + " " + withCorrections(0, 50, -60).sharpest());
            // 100, 10, 100 and 90 of them: of three digits the latest one.
            GateCounter x = counter("clock 10; gate 10; signal 0 1;");
            x.gate();
            x.set(4, 1);
            x.gate();
            due(0, () -> x.sharpest());
            x.set(4, 10);
            x.gate();
            x.set(4, 9);
            x.gate();
            due("100 10 100 90 2", () -> x.measurement(0, 3) + " " + x.measurement(1, 3) + " " + x.measurement(2, 3) + " "
                + x.measurement(3, 3) + " " + x.sharpest());
            x.drop(2);
            due(0, () -> x.sharpest());
            // A count of 0 has no digits.
            GateCounter y = new GateCounter();
            y.gate();
            due(0, () -> y.sharpest());
            y.gate();
            due(1, () -> y.sharpest());
        });
    }

    private static void shares() {
        section("Promise 42");
        holds("Returns the quotient; 0 without clock edges.", () -> {
            due(0.0f, () -> new GateCounter().tickShare());
            GateCounter x = counter("clock 999 drift -99;");
            x.run(998);
            due(0.0f, () -> x.tickShare());
            x.run(1);
            due(999.0f, () -> x.tickShare());
            x.run(997);
            due(999.0f, () -> x.tickShare());
            // The second step is of 998 ticks.
            x.run(1);
            due(1997.0f / 2.0f, () -> x.tickShare());
            x.undo();
            due(999.0f, () -> x.tickShare());
        });
    }

    private static void dropping() {
        section("Promise 56");
        holds("Drops a measurement that is kept; those behind it get numbers that are 1 less.", () -> {
            for (int dropped = 0; dropped < 20; dropped++) {
                GateCounter x = counter("clock 10; gate 1;");
                for (int i = 0; i < 21; i++) {
                    x.gate();
                }
                int which = dropped;
                due(19, () -> x.drop(which));
                for (int i = 0; i < 19; i++) {
                    int index = i;
                    // The first one, at 10, is not kept.
                    due(30 + 20 * (i < dropped ? i : i + 1), () -> x.measurement(index, 1));
                }
                due("21 19", () -> x.count(6) + " " + x.count(7));
            }
        });
        holds("Throws IndexOutOfBoundsException if there is no such measurement", () -> {
            index(2, (x, measurement) -> x.drop(measurement));
            due(BOUNDS, () -> new GateCounter().drop(0));
            GateCounter x = lived();
            x.drop(0);
            leaves(x, BOUNDS, () -> x.drop(1));
            due(0, () -> x.drop(0));
            leaves(x, BOUNDS, () -> x.drop(0));
        });
    }

    private static void undoing() {
        section("Promise 57");
        holds("Undoes the latest change that was not undone.", () -> {
            GateCounter x = new GateCounter();
            x.set(4, 1);
            x.set(4, 2);
            x.undo();
            x.set(4, 3);
            due("1 1", () -> x.undo() + " " + x.setting(4));
            due("0 10", () -> x.undo() + " " + x.setting(4));
        });
        holds("The input buffer, the error, the output, the reasons and chosenBy() stay.", () -> {
            GateCounter x = lived();
            append(x, "clock 10");
            String before = told(x);
            x.undo();
            x.undo();
            x.undo();
            due(before, () -> told(x));
            due(true, () -> x.truncateInput(8));
            due(false, () -> x.truncateInput(9));
            // So does what is saved, though it was saved behind what is undone.
            due(120, () -> x.restoreState());
        });
        holds("Returns the number of changes that can still be undone.", () -> {
            GateCounter x = lived();
            due("2 1 0", () -> x.undo() + " " + x.undo() + " " + x.undo());
            due(held(counter(SEVEN)), () -> held(x));
        });
        holds("Throws NoSuchElementException if there is none", () -> {
            GateCounter x = new GateCounter();
            leaves(x, NONE_SUCH, () -> x.undo());
            x.run(1);
            x.undo();
            leaves(x, NONE_SUCH, () -> x.undo());
            GateCounter y = lived();
            y.restoreState();
            leaves(y, NONE_SUCH, () -> y.undo());
        });
    }

    private static void printing() {
        section("Promise 58");
        holds("Writes a measurement that is kept to the output, in place of what it had:", () -> {
            GateCounter x = counter(SEVEN);
            x.gate();
            x.printSettings();
            due("g7:1xxxxx -1", () -> text(x, x.printMeasurement(0)) + " " + x.outputByte(9));
        });
        holds("g (by gate) or p (by period), its count, a colon, and its value, of which as many digits are written as the measurement has digits "
            + "(at least 1, all if it has more), the others as x.", () -> {
            // No digits; one; two of seven; as many as there are; more than there are.
            due("g0:0", () -> printed("clock 10;", false));
            due("g7:1xxxxx", () -> printed(SEVEN, false));
            due("g10:10xxxxx", () -> printed("clock 10; signal 0 1; gate 1;", false));
            due("p10:10x", () -> printed("clock 999; signal 0 9999;", true));
            due("p100:100", () -> printed("clock 999; signal 0 9999; periods 10;", true));
            due("p1000:100", () -> printed("clock 999; signal 0 9999; periods 100;", true));
            // Its value is that as it was made, whatever is set behind.
            GateCounter x = counter(SEVEN);
            x.gate();
            x.setPrescale(16);
            x.set(6, 99);
            x.set(4, 1);
            due("g7:1xxxxx", () -> text(x, x.printMeasurement(0)));
            GateCounter y = counter("clock 10; signal 0 10; gate 100;");
            y.gate();
            y.set(6, 99);
            due("g100:100xxx", () -> text(y, y.printMeasurement(0)));
            y.setPrescale(2);
            due("g100:100xxx", () -> text(y, y.printMeasurement(0)));
        });
        holds("Throws IndexOutOfBoundsException if there is no such measurement", () -> {
            index(2, (x, measurement) -> x.printMeasurement(measurement));
            GateCounter x = new GateCounter();
            x.printSettings();
            leaves(x, BOUNDS, () -> x.printMeasurement(0));
        });
        holds("Returns the number of bytes.", () -> {
            GateCounter x = counter(SEVEN);
            x.gate();
            x.printSettings();
            due("9 -1 120 -1", () -> x.printMeasurement(0) + " " + x.outputByte(9) + " " + x.outputByte(8) + " " + x.outputByte(-1));
        });
        section("Promise 59");
        holds("Writes the settings to the output, in place of what it had:", () -> {
            GateCounter x = counter("clock 10; signal 0 1; signal 999998 1; signal 999999 1;");
            x.printSignal();
            due("10,0,0,1,10,1,0 -1", () -> settings(x) + " " + x.outputByte(15));
        });
        holds("STEP, DRIFT, AGE, P, GATE, PERIODS and CORRECTION, with a comma between two (a minus sign ahead of those below 0).", () -> {
            GateCounter x = counter("clock 999 drift -99 age -1; prescale 16; gate 9999; periods 999;");
            x.set(6, -99);
            due("999,-99,-1,16,9999,999,-99", () -> settings(x));
            due(26, () -> x.printSettings());
            due("10,0,0,1,10,1,0", () -> settings(new GateCounter()));
        });
        section("Promise 60");
        holds("Writes the segments to the output, in place of what it had:", () -> {
            GateCounter x = new GateCounter();
            x.printSettings();
            due("- -1", () -> signal(x) + " " + x.outputByte(1));
        });
        holds("for each one, with a space between two, its time, a slash, and its PERIOD; an asterisk behind those that came; a minus sign "
            + "without segments.", () -> {
            due("-", () -> signal(new GateCounter()));
            GateCounter x = counter("clock 10; signal 0 7; signal 5 0; signal 999999 9999;");
            due("0/7 5/0 999999/9999", () -> signal(x));
            x.runTo(0);
            due("0/7* 5/0 999999/9999", () -> signal(x));
            x.runTo(999998);
            due("0/7* 5/0* 999999/9999", () -> signal(x));
            x.runTo(999999);
            due("0/7* 5/0* 999999/9999*", () -> signal(x));
            GateCounter y = counter("clock 10; signal 5 5;");
            y.dropSegment();
            due("-", () -> signal(y));
            // As long as can be.
            GateCounter z = new GateCounter();
            for (int i = 0; i < 8; i++) {
                z.addSegment(1999992 + i, 9999);
            }
            z.runTo(2000000);
            due("1999992/9999* 1999993/9999* 1999994/9999* 1999995/9999* 1999996/9999* 1999997/9999* 1999998/9999* 1999999/9999*",
                () -> signal(z));
            due(8 * 14 - 1, () -> z.printSignal());
        });
    }

    private static String printed(String text, boolean byPeriod) {
        GateCounter x = counter(text);
        if (byPeriod) {
            x.period();
        } else {
            x.gate();
        }
        return text(x, x.printMeasurement(0));
    }

    private static void output() {
        section("Promise 61");
        holds("Returns the byte; -1 if there is no such byte.", () -> {
            due("-1 -1", () -> new GateCounter().outputByte(0) + " " + new GateCounter().outputByte(-1));
            GateCounter x = new GateCounter();
            x.printSettings();
            due("49 48 -1 -1 -1 -1", () -> x.outputByte(0) + " " + x.outputByte(14) + " " + x.outputByte(15) + " " + x.outputByte(-1) + " "
                + x.outputByte(Integer.MAX_VALUE) + " " + x.outputByte(Integer.MIN_VALUE));
            x.printSignal();
            due("45 -1", () -> x.outputByte(0) + " " + x.outputByte(1));
        });
    }

    private static void saving() {
        section("Promise 62");
        holds("Saves everything but the input buffer, the error, the output, the reasons, chosenBy() and the changes that can be undone, in place of "
            + "an earlier saved state.", () -> {
            GateCounter x = lived();
            String before = held(x);
            leaves(x, 120, () -> x.saveState());
            x.run(100);
            due(220, () -> x.saveState());
            due(220, () -> x.restoreState());
            x.run(1);
            due(220, () -> x.restoreState());
            GateCounter y = lived();
            y.saveState();
            y.loadCounter();
            append(y, "clock 10");
            y.choose();
            y.printSignal();
            y.drop(0);
            y.setPrescale(8);
            y.restoreState();
            due(before.replace(" 2 2 3 |", " 2 2 0 |"), () -> held(y));
            due(true, () -> y.truncateInput(8));
            due("0 1 4/7", () -> y.reason() + " " + y.chosenBy() + " " + text(y, 3));
            due("1 0", () -> y.errorCode() + " " + y.errorOffset());
            // All 20 measurements that are kept, and all 8 segments.
            GateCounter z = counter("clock 10; gate 1; signal 1 1; signal 2 1; signal 3 1; signal 4 1; signal 5 1; signal 6 1; signal 7 1; "
                + "signal 999999 1;");
            for (int i = 0; i < 23; i++) {
                z.gate();
            }
            String full = held(z);
            z.saveState();
            z.drop(19);
            z.dropSegment();
            z.gate();
            z.gate();
            z.restoreState();
            due(full.replace(" 23 20 8 |", " 23 20 0 |"), () -> held(z));
        });
        section("Promise 63");
        holds("Restores the saved state, which stays saved. Nothing can be undone then.", () -> {
            GateCounter x = lived();
            x.saveState();
            for (int i = 0; i < 3; i++) {
                x.run(10);
                x.gate();
                due("120 0", () -> x.restoreState() + " " + x.count(8));
                due(NONE_SUCH, () -> x.undo());
            }
            x.run(10);
            due("0 120", () -> x.undo() + " " + x.count(0));
            due(120, () -> x.restoreState());
        });
        holds("Throws NoSuchElementException if no state is saved", () -> {
            GateCounter x = new GateCounter();
            leaves(x, NONE_SUCH, () -> x.restoreState());
            x.run(5);
            leaves(x, NONE_SUCH, () -> x.restoreState());
            // A load that fails leaves what is saved, and one that succeeds does not.
            x.saveState();
            append(x, "clock 1");
            x.loadCounter();
            due(5, () -> x.restoreState());
            append(x, "clock 10;");
            x.loadCounter();
            leaves(x, NONE_SUCH, () -> x.restoreState());
        });
    }
}
