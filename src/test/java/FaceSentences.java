import java.lang.reflect.Constructor;
import java.lang.reflect.Method;
import java.lang.reflect.Modifier;
import java.util.ArrayList;
import java.util.List;

/** What the document tells of the whole: what it is, its face, each promise's first line, and what is not promised. */
final class FaceSentences extends Sentences {
    private static final int PROMISES = 63;

    private FaceSentences() {
    }

    static void all() {
        whatItIs();
        face();
        firstLines();
        numbers();
        notPromised();
    }

    private static void whatItIs() {
        section("What it is");
        holds("A frequency counter: a clock that drifts and ages, a signal whose period changes, a prescaler, measurements by gates (edges within "
            + "so many clock edges) and by periods (clock edges within so many periods), corrections by a reference, digits that are known;", () -> {
            GateCounter x = counter("clock 100 drift 50 age 1; prescale 2; gate 4; periods 2; signal 0 20; signal 12000 10;");
            // It drifts: a tick more behind each 20 steps. It ages: behind the 100th clock edge, at 10004.
            due("100 2000 2101", () -> x.timeOfClock(1) + " " + x.timeOfClock(20) + " " + x.timeOfClock(21));
            due("50 51", () -> x.driftIn(10003) + " " + x.driftIn(10004));
            // Edges at 20, 40, 60, 80 and 100, of which 40 and 80 are outputs.
            due("5 2", () -> x.edgesIn(100) + " " + x.outputsIn(100));
            // Clock edges at 100 to 500, and the edges of 100 to 480 between: 20, of which 10 are outputs.
            due("0 100 500 10 50000 2 4 0 ", () -> forecast(x, false));
            // Outputs at 40, 80 and 120, and one clock edge between.
            due("1 40 120 1 40000 1 2 0 ", () -> forecast(x, true));
            // 99 clock edges in 9999 ticks: 9999000 / 9900 is 1010.
            due("109 10", () -> x.calibrate(9999) + " " + x.setting(6));
            x.runTo(12000);
            due(10, () -> x.state(2));
        });
        holds("count by gate and time by period tell the same.", () -> {
            // With PERIODs whose multiples fill the gate of 1000 ticks, 10 periods are as many clock edges as a PERIOD has ticks.
            int[] periods = {1, 2, 5, 10, 20, 25, 50, 100, 125, 250, 500, 1000};
            for (int period : periods) {
                GateCounter x = counter("clock 10; gate 100; periods 10; signal 0 " + period + ";");
                int rate = 1000000 / period;
                due(rate + " " + rate + " 0", () -> x.byGate(4) + " " + x.byPeriod(4) + " " + x.apart());
                due(rate, () -> x.trueRate(100000));
            }
            // Likewise with outputs that are four PERIODs from one another.
            int[] shorter = {1, 2, 5, 10, 25, 50, 125, 250};
            for (int period : shorter) {
                GateCounter x = counter("clock 10; prescale 4; gate 100; periods 10; signal 0 " + period + ";");
                int rate = 1000000 / period;
                due(rate + " " + rate + " 0", () -> x.byGate(4) + " " + x.byPeriod(4) + " " + x.apart());
            }
        });
        holds("An object is used for at most 512 calls after it has been made; what later calls answer is free.", () -> {
            // Four calls set it up, 507 measure, and the 512th one still tells the time: each gate takes 40 ticks.
            GateCounter x = counter("clock 10; signal 0 10; gate 3;");
            for (int call = 5; call <= 511; call++) {
                due(100000, () -> x.gate());
            }
            due(507 * 40, () -> x.count(0));
        });
    }

    private static String forecast(GateCounter x, boolean byPeriod) {
        StringBuilder text = new StringBuilder();
        for (int what = 0; what <= 7; what++) {
            text.append(byPeriod ? x.byPeriod(what) : x.byGate(what)).append(' ');
        }
        return text.toString();
    }

    /** Each line of the face, as the class has it. */
    private static void face() {
        section("The public face");
        for (String line : DOCUMENT.sentencesOf("The public face")) {
            holds(line, () -> {
                if (line.startsWith("public static final int ")) {
                    constants(line.substring("public static final int ".length()));
                } else if (line.equals("public final class GateCounter {")) {
                    due(true, () -> Modifier.isPublic(GateCounter.class.getModifiers()) && Modifier.isFinal(GateCounter.class.getModifiers()));
                } else if (line.startsWith("import ")) {
                    due(line.replaceAll("import |;", ""), () -> declared("undo").getExceptionTypes()[0].getName());
                } else if (!line.equals("}")) {
                    due(true, () -> written().contains(FaceTest.withoutParameterNames(line)));
                }
            });
        }
    }

    private static void constants(String told) {
        for (String constant : told.replace(";", "").split(", ")) {
            String[] nameAndValue = constant.split(" = ");
            due(nameAndValue[1], () -> GateCounter.class.getField(nameAndValue[0]).get(null));
        }
    }

    private static Method declared(String name) {
        for (Method method : GateCounter.class.getDeclaredMethods()) {
            if (method.getName().equals(name)) {
                return method;
            }
        }
        return null;
    }

    /** The public constructors and methods of the class, as the document writes them, without the parameters' names. */
    private static List<String> written() {
        List<String> written = new ArrayList<>();
        for (Method method : GateCounter.class.getDeclaredMethods()) {
            if (Modifier.isPublic(method.getModifiers())) {
                written.add(FaceTest.asWritten(method));
            }
        }
        for (Constructor<?> constructor : GateCounter.class.getConstructors()) {
            written.add("public " + constructor.getName() + (constructor.getParameterCount() == 0 ? "()" : "(..)"));
        }
        return written;
    }

    /** Each promise's first words: a method of the class. */
    private static void firstLines() {
        for (int promise = 1; promise <= PROMISES; promise++) {
            section("Promise " + promise);
            String first = DOCUMENT.sentencesOf(DOCUMENT.heading("Promise " + promise)).get(0);
            holds(first, () -> due(true, () -> written().contains(FaceTest.withoutParameterNames("public " + first.replace(":", "")))));
        }
    }

    private static void numbers() {
        section("Terms");
        holds("All numbers are whole.", () -> {
            for (Method method : GateCounter.class.getDeclaredMethods()) {
                if (Modifier.isPublic(method.getModifiers())) {
                    for (Class<?> parameter : method.getParameterTypes()) {
                        due(true, () -> parameter == int.class || parameter == boolean.class);
                    }
                    Class<?> answer = method.getReturnType();
                    String quotient = method.getName().equals("meanValue") ? "double" : "float";
                    boolean isQuotient = method.getName().equals("meanValue") || method.getName().equals("tickShare");
                    due(true, () -> isQuotient ? answer.getName().equals(quotient) : answer == int.class || answer == boolean.class);
                }
            }
        });
    }

    private static void notPromised() {
        section("Not promised");
        asksNothing("How the state is held inside the object is free, as are the speed of each call, the text of toString and the behaviour of equals "
            + "and hashCode.");
        asksNothing("Use of one object from several threads at once is not promised to be safe.");
        asksNothing("Nothing is promised beyond the answers and state changes described above, and nothing about an object after its 512th call.");
    }
}
