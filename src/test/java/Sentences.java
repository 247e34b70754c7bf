import java.util.concurrent.Callable;

/** What the tests of the document's sentences share: each one bears the words of the document that it is about. */
abstract class Sentences extends Checks {
    static final Document DOCUMENT = new Document();
    private static String heading;

    interface Call {
        Object of(GateCounter x, int number);
    }

    /** What follows is about a section of the document, told by the begin of its heading. */
    static void section(String begin) {
        heading = DOCUMENT.heading(begin);
        about = begin;
        if (heading == null) {
            fail("the document has no such section");
        }
    }

    /** A test of some words of the section. */
    static void holds(String words, Runnable test) {
        about = heading + " | " + words;
        if (heading == null || !DOCUMENT.quote(heading, words)) {
            fail("the document does not tell so");
        }
        try {
            test.run();
        } catch (RuntimeException e) {
            fail("the test ended with " + e);
        }
    }

    /** Words of the section that leave something free, or only say what a part is about: no answer could break them. */
    static void asksNothing(String words) {
        holds(words, () -> { });
    }

    /** All that a change can change, as questions tell it. */
    static String held(GateCounter x) {
        StringBuilder held = new StringBuilder(numbers(x)).append("| ").append(states(x)).append("| ");
        for (int what = 0; what <= 6; what++) {
            held.append(x.setting(what)).append(' ');
        }
        for (int i = 0; i < x.count(4); i++) {
            held.append("| ").append(x.segment(i, 0)).append(' ').append(x.segment(i, 1)).append(' ');
        }
        for (int i = 0; i < x.count(7); i++) {
            held.append("| ").append(measured(x, i));
        }
        return held.append(x.addsUp()).append(' ').append(x.tickShare()).toString();
    }

    /** What else questions tell: the error, the reasons, chosenBy() and the output. */
    static String told(GateCounter x) {
        StringBuilder told = new StringBuilder();
        int[] numbers = {x.errorCode(), x.errorOffset(), x.reason(), x.cause(), x.chosenBy()};
        for (int number : numbers) {
            told.append(number).append(' ');
        }
        for (int i = 0; x.outputByte(i) >= 0; i++) {
            told.append((char) x.outputByte(i));
        }
        return told.toString();
    }

    /** A call that answers so, and changes nothing. */
    static void leaves(GateCounter x, Object want, Callable<Object> call) {
        String before = held(x) + told(x);
        due(want, call);
        due(before, () -> held(x) + told(x));
    }

    /** A call that is refused, and changes nothing but the reasons. */
    static void refused(GateCounter x, int reason, Callable<Object> call) {
        String before = held(x);
        due(-1, call);
        due(before, () -> held(x));
        due(reason, () -> x.reason());
    }

    /** One that has something of all that could be changed. */
    static GateCounter lived() {
        GateCounter x = counter(SEVEN);
        append(x, "clock 1");
        x.loadCounter();
        x.gate();
        x.choose();
        x.saveState();
        x.addSegment(500, 3);
        x.calibrate(3);
        x.printSettings();
        return x;
    }

    /** A number below or above the range throws and changes nothing; its least and its greatest one do not throw. */
    static void range(int least, int most, Call call) {
        int[] outside = {Integer.MIN_VALUE, least - 1, most + 1, Integer.MAX_VALUE};
        for (int number : outside) {
            GateCounter x = lived();
            leaves(x, ILLEGAL, () -> call.of(x, number));
        }
        int[] ends = {least, most};
        for (int number : ends) {
            GateCounter x = lived();
            due(false, () -> answer(() -> call.of(x, number)).endsWith("Exception"));
        }
    }

    /** The number of something of which there are some: below 0, or their number and above, throws and changes nothing. */
    static void index(int some, Call call) {
        int[] outside = {Integer.MIN_VALUE, -1, some, Integer.MAX_VALUE};
        for (int number : outside) {
            GateCounter x = lived();
            leaves(x, BOUNDS, () -> call.of(x, number));
        }
        for (int number = 0; number < some; number++) {
            GateCounter x = lived();
            int which = number;
            due(false, () -> answer(() -> call.of(x, which)).endsWith("Exception"));
        }
    }

    /** One call of each kind that throws, however much there is. */
    static void callAllThatThrow(GateCounter x) {
        Call[] calls = {
            (y, n) -> y.count(n), (y, n) -> y.setting(n), (y, n) -> y.state(n), (y, n) -> y.segment(n, 0), (y, n) -> y.measurement(n, 0),
            (y, n) -> y.edgesIn(n), (y, n) -> y.outputsIn(n), (y, n) -> y.clocksIn(n), (y, n) -> y.driftIn(n), (y, n) -> y.timeOfEdge(n),
            (y, n) -> y.timeOfClock(n), (y, n) -> y.wobble(n), (y, n) -> y.clocksTo(100 * n), (y, n) -> y.byGate(n), (y, n) -> y.byPeriod(n),
            (y, n) -> y.trueRate(n), (y, n) -> y.longestSilence(n), (y, n) -> y.gateFor(n), (y, n) -> y.periodsFor(n), (y, n) -> y.gateNear(n),
            (y, n) -> y.correctionFor(n), (y, n) -> y.valueWith(n, 0), (y, n) -> y.run(n), (y, n) -> y.runTo(n), (y, n) -> y.calibrate(n),
            (y, n) -> y.setPrescale(n), (y, n) -> y.set(n, 0), (y, n) -> y.set(4, n), (y, n) -> y.addSegment(n, 1),
            (y, n) -> y.addSegment(1999999, n), (y, n) -> y.drop(n), (y, n) -> y.printMeasurement(n),
        };
        for (Call call : calls) {
            leaves(x, true, () -> answer(() -> call.of(x, -1)).endsWith("Exception"));
        }
    }

    /** Asks every question once. */
    static void askEverything(GateCounter x) {
        held(x);
        told(x);
        for (int what = 0; what <= 7; what++) {
            x.byGate(what);
            x.byPeriod(what);
        }
        int[] ticks = {1, 3, 100, 100000};
        for (int t : ticks) {
            x.edgesIn(t);
            x.outputsIn(t);
            x.clocksIn(t);
            x.driftIn(t);
            x.trueRate(t);
            x.longestSilence(t);
        }
        int[] steps = {1, 1000};
        for (int n : steps) {
            x.timeOfEdge(n);
            x.timeOfClock(n);
            x.wobble(n);
        }
        for (int digits = 1; digits <= 6; digits++) {
            x.gateFor(digits);
            x.periodsFor(digits);
        }
        for (int i = 0; i < x.count(7); i++) {
            x.valueWith(i, 99);
        }
        x.clocksTo(5);
        x.gateNear(0);
        x.correctionFor(0);
        x.idealValue(true);
        x.idealValue(false);
        askWithoutNumbers(x);
    }

    private static void askWithoutNumbers(GateCounter x) {
        x.nextOutput();
        x.changesIn();
        x.apart();
        x.longestGate();
        x.mostPeriods();
        x.bestPrescale();
        x.meanValue();
        x.median();
        x.spread();
        x.sharpest();
    }
}
