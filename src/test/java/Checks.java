import java.util.concurrent.Callable;

/** What the tests share: how an answer is held against the one that is due, and calls that many of them make. */
abstract class Checks {
    static final String ILLEGAL = "IllegalArgumentException";
    static final String BOUNDS = "IndexOutOfBoundsException";
    static final String STATE = "IllegalStateException";
    static final String NONE_SUCH = "NoSuchElementException";
    /** Edges at 11, 18, 25, 32, 39, 46, 53, 60 and on; clock edges at 10, 20 and on. */
    static final String SEVEN = "clock 10; signal 4 7; gate 5; periods 3;";

    /** What is looked at, as it is told with a wrong answer. */
    static String about = "";
    static int checks;
    static int failures;

    static void due(Object want, Callable<Object> call) {
        String got = answer(call);
        checks++;
        if (!got.equals(String.valueOf(want))) {
            fail("answered " + got + ", due is " + want);
        }
    }

    static void fail(String what) {
        failures++;
        System.out.println(about + place() + ": " + what);
    }

    /** The line of a test that called: the first one outside of what tests share. */
    private static String place() {
        for (StackTraceElement here : new Throwable().getStackTrace()) {
            if (!here.getClassName().equals("Checks") && !here.getClassName().equals("Sentences")) {
                return ", " + here.getFileName() + " line " + here.getLineNumber();
            }
        }
        return "";
    }

    /** What a call answers, or the name of what it throws. */
    static String answer(Callable<Object> call) {
        try {
            return String.valueOf(call.call());
        } catch (Exception e) {
            return e.getClass().getSimpleName();
        }
    }

    static void end(String test) {
        System.out.println(test + ": " + checks + " checks, " + failures + " wrong");
        System.exit(failures == 0 ? 0 : 1);
    }

    static void append(GateCounter x, String text) {
        for (int i = 0; i < text.length(); i += 20) {
            int[] words = new int[5];
            for (int j = 0; j < 20; j++) {
                words[j / 4] |= (i + j < text.length() ? text.charAt(i + j) : 0) << (24 - 8 * (j % 4));
            }
            x.appendInput(words[0], words[1], words[2], words[3], words[4]);
        }
        x.truncateInput(text.length());
    }

    static GateCounter counter(String text) {
        GateCounter x = new GateCounter();
        append(x, text);
        if (x.loadCounter() < 0) {
            throw new IllegalStateException("a test's text is wrong: " + text);
        }
        return x;
    }

    static void dueError(String text, int code, int offset) {
        GateCounter x = new GateCounter();
        append(x, text);
        due(code == 0, () -> x.loadCounter() >= 0);
        due(code, () -> x.errorCode());
        due(offset, () -> x.errorOffset());
    }

    static String text(GateCounter x, int length) {
        StringBuilder text = new StringBuilder();
        for (int i = 0; i < length; i++) {
            text.append((char) x.outputByte(i));
        }
        return text.toString();
    }

    static String settings(GateCounter x) {
        return text(x, x.printSettings());
    }

    static String signal(GateCounter x) {
        return text(x, x.printSignal());
    }

    static String numbers(GateCounter x) {
        StringBuilder text = new StringBuilder();
        for (int what = 0; what <= 8; what++) {
            text.append(x.count(what)).append(' ');
        }
        return text.toString();
    }

    static String states(GateCounter x) {
        StringBuilder text = new StringBuilder();
        for (int what = 0; what <= 5; what++) {
            text.append(x.state(what)).append(' ');
        }
        return text.toString();
    }

    static String measured(GateCounter x, int measurement) {
        StringBuilder text = new StringBuilder();
        for (int what = 0; what <= 7; what++) {
            text.append(x.measurement(measurement, what)).append(' ');
        }
        return text.toString();
    }
}
