import java.util.Random;

/**
 * Random runs of calls, the same in each run of the test, on the program and on the oracle. With two
 * numbers, a first seed and how many runs, as arguments it makes other ones.
 */
public final class AgainstOracleTest {
    private static final int METHODS = 63;
    private static final String[] WORDS = {"clock", "drift", "age", "prescale", "gate", "periods", "signal", "foo", "c",
        "-", ";", ";", "1", "10", "0", "99", "100", "1000000", "0000001", "16", "3", "A", "\u00e9", "\n", " ", "\t"};

    private final Random random;
    private final GateCounter program = new GateCounter();
    private final Oracle oracle = new Oracle();
    private final StringBuilder told = new StringBuilder();

    private AgainstOracleTest(long seed) {
        random = new Random(seed);
    }

    public static void main(String[] args) {
        long first = args.length > 0 ? Long.parseLong(args[0]) : 1;
        long runs = args.length > 1 ? Long.parseLong(args[1]) : 150;
        int wrong = 0;
        for (long seed = first; seed < first + runs && wrong < 5; seed++) {
            wrong += new AgainstOracleTest(seed).agrees(seed) ? 0 : 1;
        }
        System.out.println(wrong == 0 ? runs + " runs agree with the oracle" : wrong + " runs differ from the oracle");
        System.exit(wrong == 0 ? 0 : 1);
    }

    private boolean agrees(long seed) {
        boolean texts = seed % 5 == 0;
        if (random.nextInt(8) > 0 && !load(setup())) {
            return tell(seed);
        }
        for (int i = 0; i < 150; i++) {
            if (texts || random.nextInt(60) == 0) {
                if (!load(texts && random.nextInt(3) > 0 ? spoiled(setup()) : setup())) {
                    return tell(seed);
                }
            }
            if (!ask(random.nextInt(METHODS)) || i % 10 == 9 && !lookAround()) {
                return tell(seed);
            }
        }
        return lookAround() || tell(seed);
    }

    private boolean tell(long seed) {
        System.out.println("run " + seed + ":\n" + told);
        return false;
    }

    /** What questions tell of all that is held. */
    private boolean lookAround() {
        boolean same = true;
        for (int what = 0; what <= 8; what++) {
            same &= call(6, what, 0) && call(7, what, 0) && call(8, what, 0);
        }
        for (int i = 0; i < program.count(7) && same; i++) {
            for (int what = 0; what <= 7; what++) {
                same &= call(10, i, what);
            }
        }
        return same && print(59) && print(60) && call(11, 0, 0) && call(12, 0, 0) && call(13, 0, 0) && call(14, 0, 0);
    }

    private boolean print(int method) {
        if (!call(method, 0, 0)) {
            return false;
        }
        for (int i = -1; i <= 120; i++) {
            if (!call(61, i, 0)) {
                return false;
            }
        }
        return true;
    }

    private boolean load(String text) {
        boolean same = true;
        for (int i = 0; i < text.length(); i += 20) {
            int[] words = new int[5];
            for (int j = 0; j < 20; j++) {
                int sign = i + j < text.length() ? text.charAt(i + j) : 32;
                words[j / 4] |= sign << (24 - 8 * (j % 4));
            }
            told.append("append ").append(text, i, Math.min(text.length(), i + 20)).append('\n');
            same &= program.appendInput(words[0], words[1], words[2], words[3], words[4])
                == oracle.appendInput(words[0], words[1], words[2], words[3], words[4]);
        }
        return same && call(2, text.length(), 0) && call(3, 0, 0) && call(4, 0, 0) && call(5, 0, 0);
    }

    private int below(int limit) {
        return random.nextInt(limit);
    }

    private String setup() {
        StringBuilder text = new StringBuilder("clock ");
        text.append(below(3) > 0 ? 10 + below(30) : 10 + below(990));
        if (below(3) > 0) {
            text.append(" drift ").append(below(199) - 99);
        }
        if (below(2) > 0) {
            text.append(" age ").append(below(3) - 1);
        }
        text.append(";");
        if (below(2) > 0) {
            text.append("prescale ").append(1 << below(5)).append(";");
        }
        if (below(2) > 0) {
            text.append("gate ").append(below(3) > 0 ? 1 + below(200) : 1 + below(9999)).append(";\n");
        }
        if (below(2) > 0) {
            text.append("periods ").append(below(3) > 0 ? 1 + below(30) : 1 + below(999)).append(" ; ");
        }
        int time = below(3) == 0 ? 0 : below(100);
        int segments = below(9);
        for (int i = 0; i < segments; i++) {
            text.append("signal ").append(time).append(" ").append(somePeriod()).append(";");
            time += 1 + (below(3) > 0 ? below(300) : below(100000));
        }
        return text.toString();
    }

    private int somePeriod() {
        int kind = below(8);
        return kind == 0 ? 0 : kind < 6 ? 1 + below(40) : kind == 6 ? 1 + below(1000) : 1 + below(9999);
    }

    private String spoiled(String text) {
        StringBuilder spoiled = new StringBuilder(text);
        int times = 1 + below(2);
        for (int i = 0; i < times; i++) {
            int at = below(spoiled.length() + 1);
            int kind = below(4);
            if (kind == 0) {
                spoiled.setLength(at);
            } else if (kind == 1) {
                spoiled.insert(at, WORDS[below(WORDS.length)]);
            } else if (kind == 2 && at < spoiled.length()) {
                spoiled.deleteCharAt(at);
            } else {
                spoiled.insert(at, " " + WORDS[below(WORDS.length)] + " ");
            }
        }
        spoiled.setLength(Math.min(480, spoiled.length()));
        return spoiled.toString();
    }

    /** A number from around a range; within it most times. */
    private int around(int least, int most) {
        int kind = below(20);
        if (kind == 0) {
            return least - 1;
        }
        if (kind == 1) {
            return most + 1;
        }
        if (kind == 2) {
            return random.nextInt();
        }
        int[] edges = {least, most};
        int width = Math.max(1, most - least + 1);
        return kind < 5 ? edges[below(2)] : least + below(kind < 13 ? Math.min(width, 60) : width);
    }

    private boolean ask(int method) {
        int time = program.count(0);
        int kept = program.count(7);
        switch (method) {
            case 1:
                return call(1, below(3) > 0 ? 0 : random.nextInt(), 0);
            case 2:
                return call(2, below(60) - 10, 0);
            case 3:
                return below(6) > 0 || call(3, 0, 0);
            case 6:
                return call(6, around(0, 8), 0);
            case 7:
                return call(7, around(0, 6), 0);
            case 8:
                return call(8, around(0, 5), 0);
            case 9:
                return call(9, around(0, 7), around(0, 1));
            case 10:
                return call(10, around(0, Math.max(0, kept - 1)), around(0, 7));
            case 15:
            case 16:
            case 17:
            case 18:
                return call(method, below(2) > 0 ? around(0, 300) : around(0, 100000), 0);
            case 21:
            case 22:
            case 23:
                return call(method, around(1, 1000), 0);
            case 24:
                return call(24, around(-99, 99), 0);
            case 25:
            case 26:
                return call(method, around(0, 7), 0);
            case 27:
            case 29:
                return call(method, below(2) > 0 ? around(1, 300) : around(1, 100000), 0);
            case 28:
                return call(28, below(2), 0);
            case 31:
            case 32:
                return call(method, around(1, 6), 0);
            case 35:
                return call(35, below(2) > 0 ? around(0, 2000) : around(0, 2000000), 0);
            case 37:
                return call(37, below(2) > 0 ? around(0, 200000) : around(0, 2000000), 0);
            case 38:
                return call(38, around(0, Math.max(0, kept - 1)), around(-99, 99));
            case 44:
                return call(44, below(2) > 0 ? around(1, 300) : around(1, 100000), 0);
            case 45:
                return below(3) > 0 ? call(45, around(time, Math.min(2000000, time + 500)), 0)
                    : below(8) > 0 ? call(45, around(time, Math.min(2000000, time + 50000)), 0)
                    : call(45, around(Math.max(time, 1990000), 2000000), 0);
            case 50:
                return call(50, below(2) > 0 ? around(1, 300) : around(1, 100000), 0);
            case 51:
                return call(51, below(4) > 0 ? 1 << below(5) : around(0, 17), 0);
            case 52:
                return askSet();
            case 53:
                return call(53, below(3) > 0 ? time + below(200) : around(time, 1999999), below(3) > 0 ? somePeriod() : around(0, 9999));
            case 55:
            case 58:
                return call(method, around(0, Math.max(0, kept - 1)), 0);
            case 61:
                return call(61, around(0, 40), 0);
            case 62:
                return call(below(2) > 0 ? 62 : 63, 0, 0);
            default:
                return call(method, 0, 0);
        }
    }

    private boolean askSet() {
        int what = below(8);
        int[] least = {0, -99, -1, 1, 1, 1, -99, 0};
        int[] most = {10, 99, 1, 16, 9999, 999, 99, 5};
        return call(52, what, around(least[what], most[what]));
    }

    private boolean call(int method, int a, int b) {
        String got = answer(true, method, a, b);
        String due = answer(false, method, a, b);
        told.append(method).append('(').append(a).append(", ").append(b).append(") answered ").append(got).append('\n');
        if (!got.equals(due)) {
            told.append("due is ").append(due).append('\n');
        }
        return got.equals(due);
    }

    private String answer(boolean ofProgram, int method, int a, int b) {
        try {
            return String.valueOf(ofProgram ? ofProgram(method, a, b) : ofOracle(method, a, b));
        } catch (RuntimeException e) {
            return "throws." + e.getClass().getSimpleName();
        }
    }

    private Object ofProgram(int method, int a, int b) {
        GateCounter x = program;
        switch (method) {
            case 0: case 1: return x.appendInput(a, a, a, a, a);
            case 2: return x.truncateInput(a);
            case 3: return x.loadCounter();
            case 4: return x.errorCode();
            case 5: return x.errorOffset();
            case 6: return x.count(a);
            case 7: return x.setting(a);
            case 8: return x.state(a);
            case 9: return x.segment(a, b);
            case 10: return x.measurement(a, b);
            case 11: return x.reason();
            case 12: return x.cause();
            case 13: return x.chosenBy();
            case 14: return x.addsUp();
            case 15: return x.edgesIn(a);
            case 16: return x.outputsIn(a);
            case 17: return x.clocksIn(a);
            case 18: return x.driftIn(a);
            case 19: return x.nextOutput();
            case 20: return x.changesIn();
            case 21: return x.timeOfEdge(a);
            case 22: return x.timeOfClock(a);
            case 23: return x.wobble(a);
            case 24: return x.clocksTo(a);
            case 25: return x.byGate(a);
            case 26: return x.byPeriod(a);
            case 27: return x.trueRate(a);
            case 28: return x.idealValue(a == 1);
            case 29: return x.longestSilence(a);
            case 30: return x.apart();
            case 31: return x.gateFor(a);
            case 32: return x.periodsFor(a);
            case 33: return x.longestGate();
            case 34: return x.mostPeriods();
            case 35: return x.gateNear(a);
            case 36: return x.bestPrescale();
            case 37: return x.correctionFor(a);
            case 38: return x.valueWith(a, b);
            case 39: return x.meanValue();
            case 40: return x.median();
            case 41: return x.tickShare();
            case 42: return x.spread();
            case 43: return x.sharpest();
            case 44: return x.run(a);
            case 45: return x.runTo(a);
            case 46: return x.waitOutput();
            case 47: return x.gate();
            case 48: return x.period();
            case 49: return x.choose();
            case 50: return x.calibrate(a);
            case 51: return x.setPrescale(a);
            case 52: return x.set(a, b);
            case 53: return x.addSegment(a, b);
            case 54: return x.dropSegment();
            case 55: return x.drop(a);
            case 56: case 57: return x.undo();
            case 58: return x.printMeasurement(a);
            case 59: return x.printSettings();
            case 60: return x.printSignal();
            case 61: return x.outputByte(a);
            case 62: return x.saveState();
            default: return x.restoreState();
        }
    }

    private Object ofOracle(int method, int a, int b) {
        Oracle x = oracle;
        switch (method) {
            case 0: case 1: return x.appendInput(a, a, a, a, a);
            case 2: return x.truncateInput(a);
            case 3: return x.loadCounter();
            case 4: return x.errorCode();
            case 5: return x.errorOffset();
            case 6: return x.count(a);
            case 7: return x.setting(a);
            case 8: return x.state(a);
            case 9: return x.segment(a, b);
            case 10: return x.measurement(a, b);
            case 11: return x.reason();
            case 12: return x.cause();
            case 13: return x.chosenBy();
            case 14: return x.addsUp();
            case 15: return x.edgesIn(a);
            case 16: return x.outputsIn(a);
            case 17: return x.clocksIn(a);
            case 18: return x.driftIn(a);
            case 19: return x.nextOutput();
            case 20: return x.changesIn();
            case 21: return x.timeOfEdge(a);
            case 22: return x.timeOfClock(a);
            case 23: return x.wobble(a);
            case 24: return x.clocksTo(a);
            case 25: return x.byGate(a);
            case 26: return x.byPeriod(a);
            case 27: return x.trueRate(a);
            case 28: return x.idealValue(a == 1);
            case 29: return x.longestSilence(a);
            case 30: return x.apart();
            case 31: return x.gateFor(a);
            case 32: return x.periodsFor(a);
            case 33: return x.longestGate();
            case 34: return x.mostPeriods();
            case 35: return x.gateNear(a);
            case 36: return x.bestPrescale();
            case 37: return x.correctionFor(a);
            case 38: return x.valueWith(a, b);
            case 39: return x.meanValue();
            case 40: return x.median();
            case 41: return x.tickShare();
            case 42: return x.spread();
            case 43: return x.sharpest();
            case 44: return x.run(a);
            case 45: return x.runTo(a);
            case 46: return x.waitOutput();
            case 47: return x.gate();
            case 48: return x.period();
            case 49: return x.choose();
            case 50: return x.calibrate(a);
            case 51: return x.setPrescale(a);
            case 52: return x.set(a, b);
            case 53: return x.addSegment(a, b);
            case 54: return x.dropSegment();
            case 55: return x.drop(a);
            case 56: case 57: return x.undo();
            case 58: return x.printMeasurement(a);
            case 59: return x.printSettings();
            case 60: return x.printSignal();
            case 61: return x.outputByte(a);
            case 62: return x.saveState();
            default: return x.restoreState();
        }
    }
}
