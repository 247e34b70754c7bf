import java.math.BigInteger;
import java.util.ArrayDeque;
import java.util.ArrayList;
import java.util.Arrays;
import java.util.HashSet;
import java.util.List;
import java.util.NoSuchElementException;
import java.util.Set;
import java.util.regex.Matcher;
import java.util.regex.Pattern;

/**
 * The document once more, as literally as can be: one thing after another comes, and every forecast is
 * made by letting it come. It is slow and takes what it needs from the Java library; the tests hold the
 * program against it.
 */
final class Oracle {
    static final int END = 2000000;

    /** All that changes and undoing are about. */
    static final class World {
        int time;
        int step = 10;
        int drift;
        int age;
        int rest;
        int nextClock = 10;
        int clocks;
        int latestClock;
        int period;
        int nextEdge = -1;
        int edges;
        int outputs;
        int p = 1;
        int prescaled;
        int edgesSinceSet;
        int outputsSinceSet;
        int gate = 10;
        int periods = 1;
        int correction;
        int came;
        int made;
        List<int[]> segments = new ArrayList<>();
        List<int[]> kept = new ArrayList<>();
        /** The time of what came last. */
        int at;

        World copy() {
            World w = new World();
            w.time = time;
            w.step = step;
            w.drift = drift;
            w.age = age;
            w.rest = rest;
            w.nextClock = nextClock;
            w.clocks = clocks;
            w.latestClock = latestClock;
            w.period = period;
            w.nextEdge = nextEdge;
            w.edges = edges;
            w.outputs = outputs;
            w.p = p;
            w.prescaled = prescaled;
            w.edgesSinceSet = edgesSinceSet;
            w.outputsSinceSet = outputsSinceSet;
            w.gate = gate;
            w.periods = periods;
            w.correction = correction;
            w.came = came;
            w.made = made;
            w.segments = new ArrayList<>(segments);
            w.kept = new ArrayList<>(kept);
            return w;
        }

        /** Lets the next thing come if it comes up to the limit: s, c, e, o (an edge that is an output), or - for nothing. */
        char next(int limit) {
            int s = came < segments.size() ? segments.get(came)[0] : Integer.MAX_VALUE;
            int c = nextClock;
            int e = nextEdge >= 0 ? nextEdge : Integer.MAX_VALUE;
            int least = Math.min(s, Math.min(c, e));
            if (least > limit) {
                return '-';
            }
            at = least;
            if (s == least) {
                period = segments.get(came)[1];
                nextEdge = period == 0 ? -1 : s + period;
                came++;
                return 's';
            }
            if (c == least) {
                latestClock = c;
                clocks++;
                if (clocks % 100 == 0) {
                    drift = Math.max(-99, Math.min(99, drift + age));
                }
                int sum = rest + drift;
                int carry = (int) Math.floor(sum / 1000.0);
                rest = sum - carry * 1000;
                nextClock = c + step + carry;
                return 'c';
            }
            edges++;
            edgesSinceSet++;
            nextEdge = e + period;
            prescaled++;
            if (prescaled == p) {
                prescaled = 0;
                outputs++;
                outputsSinceSet++;
                return 'o';
            }
            return 'e';
        }

        void upTo(int limit) {
            while (next(limit) != '-') {
                continue;
            }
            time = limit;
        }

        int value(long outputsOrPeriods, long clockEdges, int corrected) {
            BigInteger over = BigInteger.valueOf(outputsOrPeriods).multiply(BigInteger.valueOf(p)).multiply(BigInteger.TEN.pow(9));
            BigInteger under = BigInteger.valueOf(clockEdges).multiply(BigInteger.valueOf(step)).multiply(BigInteger.valueOf(1000 + corrected));
            return over.divide(under).intValueExact();
        }

        void keep(int kind, int from, int to, int count, int value, int size) {
            kept.add(new int[] {kind, from, to, count, value, digits(count), size, correction});
            if (kept.size() > 20) {
                kept.remove(0);
            }
            made++;
            time = to;
        }

        int measureByGate() {
            char what;
            do {
                what = next(END);
                if (what == '-') {
                    return 1;
                }
            } while (what != 'c');
            int opened = at;
            int count = 0;
            int passed = 0;
            while (passed < gate) {
                what = next(END);
                if (what == '-') {
                    return 1;
                }
                passed += what == 'c' ? 1 : 0;
                count += what == 'o' ? 1 : 0;
            }
            keep(0, opened, at, count, value(count, gate, correction), gate);
            return 0;
        }

        int measureByPeriod() {
            char what;
            do {
                what = next(END);
                if (what == '-') {
                    return period > 0 ? 1 : 2;
                }
            } while (what != 'o');
            int began = at;
            int count = 0;
            int passed = 0;
            while (passed < periods) {
                what = next(END);
                if (what == '-') {
                    return period > 0 ? 1 : 2;
                }
                passed += what == 'o' ? 1 : 0;
                count += what == 'c' ? 1 : 0;
            }
            if (count == 0) {
                return 3;
            }
            keep(1, began, at, count, value(periods, count, correction), periods);
            return 0;
        }

        int[] latest() {
            return kept.get(kept.size() - 1);
        }
    }

    private World now = new World();
    private World saved;
    private final ArrayDeque<World> past = new ArrayDeque<>();
    private byte[] input = new byte[0];
    private String output = "";
    private int errorCode;
    private int errorOffset = -1;
    private int reason;
    private int cause;
    private int chosenBy;

    static int digits(int count) {
        return count == 0 ? 0 : String.valueOf(count).length();
    }

    private static void in(int number, int least, int most) {
        if (number < least || number > most) {
            throw new IllegalArgumentException();
        }
    }

    private void changing() {
        past.addLast(now.copy());
        if (past.size() > 8) {
            past.removeFirst();
        }
    }

    private void changeTo(World next) {
        changing();
        now = next;
    }

    int appendInput(int a, int b, int c, int d, int e) {
        if (input.length + 20 > 500) {
            return -1;
        }
        byte[] longer = Arrays.copyOf(input, input.length + 20);
        int[] words = {a, b, c, d, e};
        for (int i = 0; i < 20; i++) {
            longer[input.length + i] = (byte) (words[i / 4] >>> (24 - 8 * (i % 4)));
        }
        input = longer;
        return input.length;
    }

    boolean truncateInput(int length) {
        if (length < 0 || length > input.length) {
            return false;
        }
        input = Arrays.copyOf(input, length);
        return true;
    }

    int loadCounter() {
        char[] signs = new char[input.length];
        for (int i = 0; i < signs.length; i++) {
            signs[i] = (char) (input[i] & 255);
        }
        input = new byte[0];
        Setup setup = new Setup(new String(signs));
        World loaded = setup.read();
        errorCode = setup.code;
        errorOffset = setup.code == 0 ? -1 : setup.offset;
        if (setup.code != 0) {
            return -1;
        }
        now = loaded;
        saved = null;
        past.clear();
        return now.segments.size();
    }

    int errorCode() {
        return errorCode;
    }

    int errorOffset() {
        return errorOffset;
    }

    int count(int what) {
        in(what, 0, 8);
        return new int[] {now.time, now.clocks, now.edges, now.outputs, now.segments.size(), now.came, now.made,
            now.kept.size(), past.size()}[what];
    }

    int setting(int what) {
        in(what, 0, 6);
        return new int[] {now.step, now.drift, now.age, now.p, now.gate, now.periods, now.correction}[what];
    }

    int state(int what) {
        in(what, 0, 5);
        int next = now.came < now.segments.size() ? now.segments.get(now.came)[0] : -1;
        return new int[] {now.nextClock, now.rest, now.period, now.nextEdge, now.prescaled, next}[what];
    }

    int segment(int segment, int what) {
        if (segment < 0 || segment >= now.segments.size()) {
            throw new IndexOutOfBoundsException();
        }
        in(what, 0, 1);
        return now.segments.get(segment)[what];
    }

    private int[] kept(int measurement) {
        if (measurement < 0 || measurement >= now.kept.size()) {
            throw new IndexOutOfBoundsException();
        }
        return now.kept.get(measurement);
    }

    int measurement(int measurement, int what) {
        int[] found = kept(measurement);
        in(what, 0, 7);
        return found[what];
    }

    int reason() {
        return reason;
    }

    int cause() {
        return cause;
    }

    int chosenBy() {
        return chosenBy;
    }

    boolean addsUp() {
        return now.edgesSinceSet == now.p * now.outputsSinceSet + now.prescaled;
    }

    int edgesIn(int ticks) {
        in(ticks, 0, 100000);
        World w = now.copy();
        w.upTo(now.time + ticks);
        return w.edges - now.edges;
    }

    int outputsIn(int ticks) {
        in(ticks, 0, 100000);
        World w = now.copy();
        w.upTo(now.time + ticks);
        return w.outputs - now.outputs;
    }

    int clocksIn(int ticks) {
        in(ticks, 0, 100000);
        World w = now.copy();
        w.upTo(now.time + ticks);
        return w.clocks - now.clocks;
    }

    int driftIn(int ticks) {
        in(ticks, 0, 100000);
        World w = now.copy();
        w.upTo(now.time + ticks);
        return w.drift;
    }

    int nextOutput() {
        World w = now.copy();
        for (char what = w.next(END); what != '-'; what = w.next(END)) {
            if (what == 'o') {
                return w.at;
            }
        }
        return -1;
    }

    int changesIn() {
        return now.came < now.segments.size() ? now.segments.get(now.came)[0] - now.time : -1;
    }

    int timeOfEdge(int n) {
        in(n, 1, 1000);
        World w = now.copy();
        for (char what = w.next(END); what != '-'; what = w.next(END)) {
            if (w.edges - now.edges == n) {
                return w.at;
            }
        }
        return -1;
    }

    int timeOfClock(int n) {
        in(n, 1, 1000);
        World w = now.copy();
        for (char what = w.next(END); what != '-'; what = w.next(END)) {
            if (w.clocks - now.clocks == n) {
                return w.at;
            }
        }
        return -1;
    }

    int wobble(int n) {
        in(n, 1, 1000);
        List<Integer> times = new ArrayList<>();
        World w = now.copy();
        for (char what = w.next(END); what != '-' && times.size() < n + 1; what = w.next(END)) {
            if (what == 'c') {
                times.add(w.at);
            }
        }
        if (times.size() < n + 1) {
            return -1;
        }
        int least = Integer.MAX_VALUE;
        int greatest = Integer.MIN_VALUE;
        for (int i = 0; i < n; i++) {
            least = Math.min(least, times.get(i + 1) - times.get(i));
            greatest = Math.max(greatest, times.get(i + 1) - times.get(i));
        }
        return greatest - least;
    }

    int clocksTo(int drift) {
        in(drift, -99, 99);
        int d = now.drift;
        for (int i = 0; i <= 20000; i++) {
            if (i > 0 && (now.clocks + i) % 100 == 0) {
                d = Math.max(-99, Math.min(99, d + now.age));
            }
            if (d == drift) {
                return i;
            }
        }
        return -1;
    }

    int byGate(int what) {
        in(what, 0, 7);
        World w = now.copy();
        return w.measureByGate() == 0 ? w.latest()[what] : -1;
    }

    int byPeriod(int what) {
        in(what, 0, 7);
        World w = now.copy();
        return w.measureByPeriod() == 0 ? w.latest()[what] : -1;
    }

    int trueRate(int ticks) {
        in(ticks, 1, 100000);
        return (int) ((long) edgesIn(ticks) * 1000000 / ticks);
    }

    int idealValue(boolean byPeriod) {
        World w = now.copy();
        w.drift = 0;
        w.age = 0;
        w.rest = 0;
        w.correction = 0;
        return (byPeriod ? w.measureByPeriod() : w.measureByGate()) == 0 ? w.latest()[4] : -1;
    }

    int longestSilence(int ticks) {
        in(ticks, 1, 100000);
        int end = now.time + ticks;
        int longest = 0;
        int latest = now.time;
        World w = now.copy();
        for (char what = w.next(end); what != '-'; what = w.next(end)) {
            if (what == 'e' || what == 'o') {
                longest = Math.max(longest, w.at - latest);
                latest = w.at;
            }
        }
        return Math.max(longest, end - latest);
    }

    int apart() {
        int g = byGate(4);
        int p = byPeriod(4);
        return g == -1 || p == -1 ? -1 : Math.abs(g - p);
    }

    /** The counts of measurements by gate with GATE 1 and on, so far as they are not refused. */
    private List<Integer> countsByGate() {
        List<Integer> counts = new ArrayList<>();
        World w = now.copy();
        boolean open = false;
        int count = 0;
        for (char what = w.next(END); what != '-' && counts.size() < 9999; what = w.next(END)) {
            if (what == 'c' && open) {
                counts.add(count);
            }
            open |= what == 'c';
            count += open && what == 'o' ? 1 : 0;
        }
        return counts;
    }

    /** Likewise by period, with PERIODS 1 and on; 0 where one is too short. */
    private List<Integer> countsByPeriod() {
        List<Integer> counts = new ArrayList<>();
        World w = now.copy();
        boolean begun = false;
        int count = 0;
        for (char what = w.next(END); what != '-' && counts.size() < 999; what = w.next(END)) {
            if (what == 'o' && begun) {
                counts.add(count);
            }
            begun |= what == 'o';
            count += begun && what == 'c' ? 1 : 0;
        }
        return counts;
    }

    int gateFor(int digits) {
        in(digits, 1, 6);
        List<Integer> counts = countsByGate();
        for (int i = 0; i < counts.size(); i++) {
            if (digits(counts.get(i)) >= digits) {
                return i + 1;
            }
        }
        return -1;
    }

    int periodsFor(int digits) {
        in(digits, 1, 6);
        List<Integer> counts = countsByPeriod();
        for (int i = 0; i < counts.size(); i++) {
            if (counts.get(i) > 0 && digits(counts.get(i)) >= digits) {
                return i + 1;
            }
        }
        return -1;
    }

    int longestGate() {
        int size = countsByGate().size();
        return size == 0 ? -1 : size;
    }

    int mostPeriods() {
        List<Integer> counts = countsByPeriod();
        for (int i = counts.size() - 1; i >= 0; i--) {
            if (counts.get(i) > 0) {
                return i + 1;
            }
        }
        return -1;
    }

    int gateNear(int tolerance) {
        in(tolerance, 0, 2000000);
        int wanted = byPeriod(4);
        if (wanted == -1) {
            return -1;
        }
        List<Integer> counts = countsByGate();
        for (int i = 0; i < counts.size(); i++) {
            if (Math.abs(now.value(counts.get(i), i + 1, now.correction) - wanted) <= tolerance) {
                return i + 1;
            }
        }
        return -1;
    }

    int bestPrescale() {
        int best = -1;
        int greatest = -1;
        for (int p = 1; p <= 16; p *= 2) {
            World w = now.copy();
            w.p = p;
            w.prescaled = 0;
            if (w.measureByGate() == 0 && w.latest()[4] > greatest) {
                greatest = w.latest()[4];
                best = p;
            }
        }
        return best;
    }

    int correctionFor(int value) {
        in(value, 0, 2000000);
        int best = -100;
        int nearest = Integer.MAX_VALUE;
        World measured = now.copy();
        if (measured.measureByGate() != 0) {
            return -100;
        }
        for (int c = -99; c <= 99; c++) {
            int away = Math.abs(now.value(measured.latest()[3], now.gate, c) - value);
            if (away < nearest) {
                nearest = away;
                best = c;
            }
        }
        return best;
    }

    int valueWith(int measurement, int correction) {
        int[] m = kept(measurement);
        in(correction, -99, 99);
        return m[0] == 0 ? now.value(m[3], m[6], correction) : now.value(m[6], m[3], correction);
    }

    private int[] values() {
        return now.kept.stream().mapToInt(m -> m[4]).sorted().toArray();
    }

    double meanValue() {
        int[] values = values();
        long sum = 0;
        for (int value : values) {
            sum += value;
        }
        return values.length == 0 ? 0.0 : (double) sum / (double) values.length;
    }

    int median() {
        int[] values = values();
        return values.length == 0 ? -1 : values[(values.length - 1) / 2];
    }

    float tickShare() {
        return now.clocks == 0 ? 0f : (float) now.latestClock / (float) now.clocks;
    }

    int spread() {
        int[] values = values();
        return values.length < 2 ? 0 : values[values.length - 1] - values[0];
    }

    int sharpest() {
        int best = -1;
        for (int i = 0; i < now.kept.size(); i++) {
            if (best == -1 || now.kept.get(i)[5] >= now.kept.get(best)[5]) {
                best = i;
            }
        }
        return best;
    }

    int run(int ticks) {
        in(ticks, 1, 100000);
        if (now.time + ticks > END) {
            throw new IllegalStateException();
        }
        changing();
        int before = now.edges;
        now.upTo(now.time + ticks);
        return now.edges - before;
    }

    int runTo(int time) {
        in(time, now.time, END);
        changing();
        int before = now.outputs;
        now.upTo(time);
        return now.outputs - before;
    }

    private int refused(int why, int behind) {
        reason = why;
        cause = behind;
        return -1;
    }

    private int made(World w, int answer) {
        reason = 0;
        cause = 0;
        changeTo(w);
        return answer;
    }

    int waitOutput() {
        World w = now.copy();
        for (char what = w.next(END); what != '-'; what = w.next(END)) {
            if (what == 'o') {
                w.time = w.at;
                return made(w, w.at);
            }
        }
        return refused(w.period > 0 ? 1 : 2, 0);
    }

    int gate() {
        World w = now.copy();
        int why = w.measureByGate();
        return why == 0 ? made(w, w.latest()[4]) : refused(why, 0);
    }

    int period() {
        World w = now.copy();
        int why = w.measureByPeriod();
        return why == 0 ? made(w, w.latest()[4]) : refused(why, 0);
    }

    int choose() {
        World g = now.copy();
        World p = now.copy();
        int gateWhy = g.measureByGate();
        int periodWhy = p.measureByPeriod();
        if (gateWhy != 0 && periodWhy != 0) {
            chosenBy = 0;
            return refused(gateWhy, periodWhy);
        }
        if (gateWhy != 0) {
            chosenBy = 5;
        } else if (periodWhy != 0) {
            chosenBy = 4;
        } else {
            int c = Integer.compare(g.latest()[3], p.latest()[3]);
            chosenBy = c > 0 ? 1 : c < 0 ? 2 : 3;
        }
        World chosen = chosenBy == 2 || chosenBy == 5 ? p : g;
        return made(chosen, chosen.latest()[4]);
    }

    int calibrate(int ticks) {
        in(ticks, 1, 100000);
        if (now.time + ticks > END) {
            return refused(1, 0);
        }
        World w = now.copy();
        w.upTo(now.time + ticks);
        int clocks = w.clocks - now.clocks;
        if (clocks == 0) {
            return refused(4, 0);
        }
        long corrected = (long) ticks * 1000 / ((long) clocks * now.step) - 1000;
        w.correction = (int) Math.max(-99, Math.min(99, corrected));
        return made(w, w.correction + 99);
    }

    int setPrescale(int p) {
        if (p != 1 && p != 2 && p != 4 && p != 8 && p != 16) {
            throw new IllegalArgumentException();
        }
        changing();
        int before = now.p;
        now.p = p;
        now.prescaled = 0;
        now.edgesSinceSet = 0;
        now.outputsSinceSet = 0;
        return before;
    }

    int set(int what, int value) {
        int[] least = {0, -99, -1, 0, 1, 1, -99};
        int[] most = {0, 99, 1, 0, 9999, 999, 99};
        in(what, 1, 6);
        if (what == 3) {
            throw new IllegalArgumentException();
        }
        in(value, least[what], most[what]);
        changing();
        int before = setting(what);
        now.drift = what == 1 ? value : now.drift;
        now.age = what == 2 ? value : now.age;
        now.gate = what == 4 ? value : now.gate;
        now.periods = what == 5 ? value : now.periods;
        now.correction = what == 6 ? value : now.correction;
        return before;
    }

    int addSegment(int time, int period) {
        in(time, now.time + 1, 1999999);
        for (int[] segment : now.segments) {
            in(time, segment[0] + 1, 1999999);
        }
        in(period, 0, 9999);
        if (now.segments.size() == 8) {
            throw new IllegalStateException();
        }
        changing();
        now.segments.add(new int[] {time, period});
        return now.segments.size() - 1;
    }

    int dropSegment() {
        if (now.segments.size() == now.came) {
            throw new IllegalStateException();
        }
        changing();
        now.segments.remove(now.segments.size() - 1);
        return now.segments.size();
    }

    int drop(int measurement) {
        kept(measurement);
        changing();
        now.kept.remove(measurement);
        return now.kept.size();
    }

    int undo() {
        if (past.isEmpty()) {
            throw new NoSuchElementException();
        }
        now = past.removeLast();
        return past.size();
    }

    int printMeasurement(int measurement) {
        int[] m = kept(measurement);
        String value = String.valueOf(m[4]);
        int told = Math.min(value.length(), Math.max(1, m[5]));
        output = (m[0] == 0 ? "g" : "p") + m[3] + ":" + value.substring(0, told) + "x".repeat(value.length() - told);
        return output.length();
    }

    int printSettings() {
        output = now.step + "," + now.drift + "," + now.age + "," + now.p + "," + now.gate + "," + now.periods + "," + now.correction;
        return output.length();
    }

    int printSignal() {
        List<String> texts = new ArrayList<>();
        for (int[] segment : now.segments) {
            texts.add(segment[0] + "/" + segment[1] + (texts.size() < now.came ? "*" : ""));
        }
        output = texts.isEmpty() ? "-" : String.join(" ", texts);
        return output.length();
    }

    int outputByte(int index) {
        return index < 0 || index >= output.length() ? -1 : output.charAt(index);
    }

    int saveState() {
        saved = now.copy();
        return now.time;
    }

    int restoreState() {
        if (saved == null) {
            throw new NoSuchElementException();
        }
        now = saved.copy();
        past.clear();
        return now.time;
    }

    /** A setup text, read with the tokens of a regular expression. */
    private static final class Setup {
        private static final Pattern TOKEN = Pattern.compile("[a-z]+|[0-9]+|[^ \n]", Pattern.DOTALL);
        private static final Set<String> ONCE = Set.of("prescale", "gate", "periods");

        private final List<String> tokens = new ArrayList<>();
        private final List<Integer> offsets = new ArrayList<>();
        private int index;
        int code;
        int offset;

        private static final class Wrong extends RuntimeException {
            private static final long serialVersionUID = 1;
        }

        Setup(String text) {
            Matcher matcher = TOKEN.matcher(text);
            while (matcher.find()) {
                tokens.add(matcher.group());
                offsets.add(matcher.start());
            }
            tokens.add("");
            offsets.add(text.length());
        }

        World read() {
            World w = new World();
            try {
                word("clock");
                w.step = number(10, 999);
                w.nextClock = w.step;
                if (tokens.get(index).equals("drift")) {
                    index++;
                    w.drift = signed(99);
                }
                if (tokens.get(index).equals("age")) {
                    index++;
                    w.age = signed(1);
                }
                word(";");
                Set<String> told = new HashSet<>();
                while (!tokens.get(index).isEmpty()) {
                    statement(w, told);
                }
            } catch (Wrong wrong) {
                offset = offsets.get(index);
            }
            return w;
        }

        private void statement(World w, Set<String> told) {
            String first = tokens.get(index);
            check(ONCE.contains(first) || first.equals("signal"), 1);
            check(!told.contains(first), 3);
            if (first.equals("signal")) {
                check(w.segments.size() < 8, 5);
            } else {
                told.add(first);
            }
            index++;
            if (first.equals("prescale")) {
                check(isNumber(), 1);
                check(Set.of(1, 2, 4, 8, 16).contains(Integer.parseInt(tokens.get(index))), 2);
                w.p = number(1, 16);
            } else if (first.equals("gate")) {
                w.gate = number(1, 9999);
            } else if (first.equals("periods")) {
                w.periods = number(1, 999);
            } else {
                check(isNumber(), 1);
                int time = Integer.parseInt(tokens.get(index));
                check(w.segments.isEmpty() || time > w.segments.get(w.segments.size() - 1)[0], 4);
                index++;
                w.segments.add(new int[] {time, number(0, 9999)});
            }
            word(";");
        }

        private void check(boolean holds, int error) {
            if (!holds) {
                code = error;
                throw new Wrong();
            }
        }

        private void word(String word) {
            check(tokens.get(index).equals(word), 1);
            index++;
        }

        private boolean isNumber() {
            return tokens.get(index).matches("[0-9]{1,6}");
        }

        private int number(int least, int most) {
            check(isNumber(), 1);
            int number = Integer.parseInt(tokens.get(index));
            check(number >= least && number <= most, 2);
            index++;
            return number;
        }

        private int signed(int most) {
            boolean minus = tokens.get(index).equals("-");
            if (minus) {
                index++;
            }
            int number = number(0, most);
            return minus ? -number : number;
        }
    }
}
