import java.util.NoSuchElementException;

/** A frequency counter with a drifting clock; ../shared/DOC.md says what each method promises. */
public final class GateCounter {
    public static final int NONE = -1;
    public static final int NO_ERROR = 0;
    public static final int SYNTAX = 1;
    public static final int OUT_OF_RANGE = 2;
    public static final int REPEATED = 3;
    public static final int ORDER = 4;
    public static final int TOO_MANY = 5;
    public static final int LATE = 1, SILENT = 2, SHORT = 3, NO_CLOCK = 4;

    private static final int NOT_REFUSED = 0;
    private static final int END = 2000000;
    private static final int MOST_TICKS = 100000;
    private static final int MOST_STEPS = 1000;
    private static final int MOST_GATE = 9999;
    private static final int MOST_PERIODS = 999;
    private static final int MOST_PERIOD = 9999;
    private static final int MOST_OFF = 99;
    private static final int MOST_DIGITS = 6;
    private static final int MOST_VALUE = 2000000;
    private static final int MOST_SEGMENTS = 8;
    private static final int MOST_KEPT = 20;
    private static final int MOST_UNDONE = 8;
    private static final int INPUT_SIZE = 500;
    private static final int INPUT_STEP = 20;
    private static final int COUNT = 3;
    private static final int VALUE = 4;
    private static final int LAST_NUMBER = 7;
    private static final int[] PRESCALES = {1, 2, 4, 8, 16};

    private final SetupText input;
    private final StringBuilder output;
    private int latestReason;
    private int latestCause;
    private int latestChoice;
    private final State now;
    /** Forecasts and measurements are made on these two, so that what is refused leaves no trace. */
    private final State trial;
    private final State rival;
    private final State saved;
    private boolean isSaved;
    /** A ring: the state ahead of change k stands at k modulo its length. */
    private final State[] past;
    private int changes;
    private int undoable;

    public GateCounter() {
        input = new SetupText();
        output = new StringBuilder();
        now = new State();
        trial = new State();
        rival = new State();
        saved = new State();
        past = new State[MOST_UNDONE];
        for (int i = 0; i < MOST_UNDONE; i++) {
            past[i] = new State();
        }
    }

    // The input and its errors.

    public int appendInput(int a, int b, int c, int d, int e) {
        if (input.length + INPUT_STEP > INPUT_SIZE) {
            return -1;
        }
        input.append(a);
        input.append(b);
        input.append(c);
        input.append(d);
        input.append(e);
        return input.length;
    }

    public boolean truncateInput(int length) {
        if (length < 0 || length > input.length) {
            return false;
        }
        input.length = length;
        return true;
    }

    public int loadCounter() {
        boolean loaded = input.read();
        input.length = 0;
        if (!loaded) {
            return NONE;
        }
        now.copyFrom(input.draft);
        undoable = 0;
        isSaved = false;
        return now.signal.segments;
    }

    public int errorCode() {
        return input.error;
    }

    public int errorOffset() {
        return input.errorOffset;
    }

    // How things are.

    public int count(int what) throws IllegalArgumentException {
        switch (what) {
            case 0:
                return now.time;
            case 1:
                return now.clock.edges;
            case 2:
                return now.signal.edges;
            case 3:
                return now.signal.outputs;
            case 4:
                return now.signal.segments;
            case 5:
                return now.signal.came;
            case 6:
                return now.made;
            case 7:
                return now.kept;
            case 8:
                return undoable;
            default:
                throw new IllegalArgumentException();
        }
    }

    public int setting(int what) throws IllegalArgumentException {
        switch (what) {
            case 0:
                return now.clock.step;
            case 1:
                return now.clock.drift;
            case 2:
                return now.clock.age;
            case 3:
                return now.signal.prescale;
            case 4:
                return now.gateLength;
            case 5:
                return now.periodNumber;
            case 6:
                return now.correction;
            default:
                throw new IllegalArgumentException();
        }
    }

    public int state(int what) throws IllegalArgumentException {
        switch (what) {
            case 0:
                return now.clock.next;
            case 1:
                return now.clock.rest;
            case 2:
                return now.signal.period;
            case 3:
                return now.signal.nextEdge;
            case 4:
                return now.signal.prescaled;
            case 5:
                return now.signal.nextSegment();
            default:
                throw new IllegalArgumentException();
        }
    }

    public int segment(int segment, int what) throws IndexOutOfBoundsException, IllegalArgumentException {
        if (segment < 0 || segment >= now.signal.segments) {
            throw new IndexOutOfBoundsException();
        }
        require(what == 0 || what == 1);
        return what == 0 ? now.signal.times[segment] : now.signal.periods[segment];
    }

    public int measurement(int measurement, int what) throws IndexOutOfBoundsException, IllegalArgumentException {
        Measurement found = found(measurement);
        requireWithin(what, 0, LAST_NUMBER);
        return found.number(what);
    }

    public int reason() {
        return latestReason;
    }

    public int cause() {
        return latestCause;
    }

    public int chosenBy() {
        return latestChoice;
    }

    public boolean addsUp() {
        return now.signal.isSumRight();
    }

    // Forecasts of what comes.

    public int edgesIn(int ticks) throws IllegalArgumentException {
        requireWithin(ticks, 0, MOST_TICKS);
        return edgesComing(ticks);
    }

    private int edgesComing(int ticks) {
        Signal signal = fresh(trial).signal;
        signal.passTo(now.time + ticks);
        return signal.edges - now.signal.edges;
    }

    public int outputsIn(int ticks) throws IllegalArgumentException {
        requireWithin(ticks, 0, MOST_TICKS);
        Signal signal = fresh(trial).signal;
        signal.passTo(now.time + ticks);
        return signal.outputs - now.signal.outputs;
    }

    public int clocksIn(int ticks) throws IllegalArgumentException {
        requireWithin(ticks, 0, MOST_TICKS);
        Clock clock = fresh(trial).clock;
        clock.passTo(now.time + ticks);
        return clock.edges - now.clock.edges;
    }

    public int driftIn(int ticks) throws IllegalArgumentException {
        requireWithin(ticks, 0, MOST_TICKS);
        Clock clock = fresh(trial).clock;
        clock.passTo(now.time + ticks);
        return clock.drift;
    }

    public int nextOutput() {
        return now.signal.timeOfOutput(1);
    }

    public int changesIn() {
        int next = now.signal.nextSegment();
        return next == NONE ? NONE : next - now.time;
    }

    public int timeOfEdge(int n) throws IllegalArgumentException {
        requireWithin(n, 1, MOST_STEPS);
        return now.signal.timeAfter(n);
    }

    public int timeOfClock(int n) throws IllegalArgumentException {
        requireWithin(n, 1, MOST_STEPS);
        Clock clock = fresh(trial).clock;
        clock.passEdges(n);
        return clock.latest > END ? NONE : clock.latest;
    }

    public int wobble(int n) throws IllegalArgumentException {
        requireWithin(n, 1, MOST_STEPS);
        Clock clock = fresh(trial).clock;
        clock.tick();
        int least = END;
        int greatest = 0;
        for (int i = 0; i < n; i++) {
            int from = clock.latest;
            clock.tick();
            least = Math.min(least, clock.latest - from);
            greatest = Math.max(greatest, clock.latest - from);
        }
        return clock.latest > END ? NONE : greatest - least;
    }

    public int clocksTo(int drift) throws IllegalArgumentException {
        requireWithin(drift, -MOST_OFF, MOST_OFF);
        return now.clock.edgesToDrift(drift);
    }

    public int byGate(int what) throws IllegalArgumentException {
        requireWithin(what, 0, LAST_NUMBER);
        return fresh(trial).measureByGate() == NOT_REFUSED ? trial.latestNumber(what) : NONE;
    }

    public int byPeriod(int what) throws IllegalArgumentException {
        requireWithin(what, 0, LAST_NUMBER);
        return fresh(rival).measureByPeriod() == NOT_REFUSED ? rival.latestNumber(what) : NONE;
    }

    public int trueRate(int ticks) throws IllegalArgumentException {
        requireWithin(ticks, 1, MOST_TICKS);
        return ticks > 0 ? (int) (edgesComing(ticks) * 1000000L / ticks) : 0;
    }

    public int idealValue(boolean byPeriod) {
        State ideal = fresh(trial);
        ideal.clock.steady();
        ideal.correction = 0;
        int refusal = byPeriod ? ideal.measureByPeriod() : ideal.measureByGate();
        return refusal == NOT_REFUSED ? ideal.latestNumber(VALUE) : NONE;
    }

    public int longestSilence(int ticks) throws IllegalArgumentException {
        requireWithin(ticks, 1, MOST_TICKS);
        return now.signal.longestGap(now.time, now.time + ticks);
    }

    public int apart() {
        if (fresh(trial).measureByGate() != NOT_REFUSED || fresh(rival).measureByPeriod() != NOT_REFUSED) {
            return NONE;
        }
        return Math.abs(trial.latestNumber(VALUE) - rival.latestNumber(VALUE));
    }

    // What settings would be best.

    public int gateFor(int digits) throws IllegalArgumentException {
        requireWithin(digits, 1, MOST_DIGITS);
        if (!fresh(trial).toClockEdge()) {
            return NONE;
        }
        int before = trial.signal.outputs;
        for (int gate = 1; gate <= MOST_GATE && trial.toClockEdge(); gate++) {
            if (digitsOf(trial.signal.outputs - before) >= digits) {
                return gate;
            }
        }
        return NONE;
    }

    public int periodsFor(int digits) throws IllegalArgumentException {
        requireWithin(digits, 1, MOST_DIGITS);
        int begin = now.signal.timeOfOutput(1);
        if (begin == NONE) {
            return NONE;
        }
        Clock clock = fresh(trial).clock;
        clock.passTo(begin);
        int before = clock.edges;
        for (int periods = 1; periods <= MOST_PERIODS; periods++) {
            int end = now.signal.timeOfOutput(1 + periods);
            if (end == NONE) {
                return NONE;
            }
            clock.passTo(end);
            if (digitsOf(clock.edges - before) >= digits) {
                return periods;
            }
        }
        return NONE;
    }

    public int longestGate() {
        if (!fresh(trial).toClockEdge()) {
            return NONE;
        }
        int longest = NONE;
        for (int gate = 1; gate <= MOST_GATE && trial.toClockEdge(); gate++) {
            longest = gate;
        }
        return longest;
    }

    public int mostPeriods() {
        Signal signal = fresh(trial).signal;
        signal.passTo(END);
        int most = Math.min(MOST_PERIODS, signal.outputs - now.signal.outputs - 1);
        if (most < 1) {
            return NONE;
        }
        // With fewer periods there are no more clock edges between: if the most are too short, all are.
        fresh(trial).periodNumber = most;
        return trial.measureByPeriod() == NOT_REFUSED ? most : NONE;
    }

    public int gateNear(int tolerance) throws IllegalArgumentException {
        requireWithin(tolerance, 0, MOST_VALUE);
        if (fresh(rival).measureByPeriod() != NOT_REFUSED || !fresh(trial).toClockEdge()) {
            return NONE;
        }
        int wanted = rival.latestNumber(VALUE);
        int before = trial.signal.outputs;
        for (int gate = 1; gate <= MOST_GATE && trial.toClockEdge(); gate++) {
            int value = trial.valueOf(trial.signal.outputs - before, gate, trial.correction);
            if (Math.abs(value - wanted) <= tolerance) {
                return gate;
            }
        }
        return NONE;
    }

    public int bestPrescale() {
        int best = NONE;
        int bestValue = -1;
        for (int prescale : PRESCALES) {
            fresh(trial).signal.setUpPrescaler(prescale);
            if (trial.measureByGate() == NOT_REFUSED && trial.latestNumber(VALUE) > bestValue) {
                best = prescale;
                bestValue = trial.latestNumber(VALUE);
            }
        }
        return best;
    }

    public int correctionFor(int value) throws IllegalArgumentException {
        requireWithin(value, 0, MOST_VALUE);
        if (fresh(trial).measureByGate() != NOT_REFUSED) {
            return NONE - MOST_OFF;
        }
        int count = trial.latestNumber(COUNT);
        int best = -MOST_OFF;
        int least = Math.abs(now.valueOf(count, now.gateLength, best) - value);
        for (int correction = -MOST_OFF + 1; correction <= MOST_OFF; correction++) {
            int difference = Math.abs(now.valueOf(count, now.gateLength, correction) - value);
            if (difference < least) {
                least = difference;
                best = correction;
            }
        }
        return best;
    }

    // The measurements that are kept.

    public int valueWith(int measurement, int correction) throws IndexOutOfBoundsException, IllegalArgumentException {
        Measurement found = found(measurement);
        requireWithin(correction, -MOST_OFF, MOST_OFF);
        return found.byPeriod
            ? now.valueOf(found.size, found.count, correction)
            : now.valueOf(found.count, found.size, correction);
    }

    public double meanValue() {
        long sum = 0;
        for (int i = 0; i < now.kept; i++) {
            sum += now.valueAt(i);
        }
        return now.kept > 0 ? (double) sum / (double) now.kept : 0.0;
    }

    public int median() {
        int middle = (now.kept - 1) / 2;
        for (int i = 0; i < now.kept; i++) {
            int value = now.valueAt(i);
            if (now.valuesBelow(value) <= middle && middle < now.valuesBelow(value + 1)) {
                return value;
            }
        }
        return NONE;
    }

    public float tickShare() {
        return now.clock.edges > 0 ? (float) now.clock.latest / (float) now.clock.edges : 0;
    }

    public int spread() {
        int least = now.valueAt(0);
        int greatest = least;
        for (int i = 1; i < now.kept; i++) {
            least = Math.min(least, now.valueAt(i));
            greatest = Math.max(greatest, now.valueAt(i));
        }
        return greatest - least;
    }

    public int sharpest() {
        int sharpest = NONE;
        int most = 0;
        for (int i = 0; i < now.kept; i++) {
            int digits = digitsOf(now.countAt(i));
            if (digits >= most) {
                most = digits;
                sharpest = i;
            }
        }
        return sharpest;
    }

    // Changes.

    public int run(int ticks) throws IllegalArgumentException, IllegalStateException {
        requireWithin(ticks, 1, MOST_TICKS);
        if (now.time + ticks > END) {
            throw new IllegalStateException();
        }
        keepForUndo();
        int before = now.signal.edges;
        now.passTo(now.time + ticks);
        return now.signal.edges - before;
    }

    public int runTo(int time) throws IllegalArgumentException {
        requireWithin(time, now.time, END);
        keepForUndo();
        int before = now.signal.outputs;
        now.passTo(time);
        return now.signal.outputs - before;
    }

    public int waitOutput() {
        int time = now.signal.timeOfOutput(1);
        if (time == NONE) {
            return refuse(now.signal.reasonForNoEnd(), 0);
        }
        acceptChange();
        now.passTo(time);
        return time;
    }

    public int gate() {
        int refusal = fresh(trial).measureByGate();
        return refusal == NOT_REFUSED ? accept(trial) : refuse(refusal, 0);
    }

    public int period() {
        int refusal = fresh(rival).measureByPeriod();
        return refusal == NOT_REFUSED ? accept(rival) : refuse(refusal, 0);
    }

    public int choose() {
        int gateRefusal = fresh(trial).measureByGate();
        int periodRefusal = fresh(rival).measureByPeriod();
        latestChoice = choice(gateRefusal, periodRefusal);
        if (latestChoice == 0) {
            return refuse(gateRefusal, periodRefusal);
        }
        return accept(latestChoice == 2 || latestChoice == 5 ? rival : trial);
    }

    private int choice(int gateRefusal, int periodRefusal) {
        if (gateRefusal != NOT_REFUSED) {
            return periodRefusal != NOT_REFUSED ? 0 : 5;
        }
        if (periodRefusal != NOT_REFUSED) {
            return 4;
        }
        int lead = trial.latestNumber(COUNT) - rival.latestNumber(COUNT);
        return lead > 0 ? 1 : lead < 0 ? 2 : 3;
    }

    public int calibrate(int ticks) throws IllegalArgumentException {
        requireWithin(ticks, 1, MOST_TICKS);
        int refusal = fresh(trial).makeCalibration(ticks);
        if (refusal != NOT_REFUSED) {
            return refuse(refusal, 0);
        }
        acceptChange();
        now.copyFrom(trial);
        return now.correction + MOST_OFF;
    }

    public int setPrescale(int p) throws IllegalArgumentException {
        require(isPrescale(p));
        keepForUndo();
        int before = now.signal.prescale;
        now.signal.setUpPrescaler(p);
        return before;
    }

    public int set(int what, int value) throws IllegalArgumentException {
        require(maySet(what, value));
        int before = setting(what);
        keepForUndo();
        if (what == 1) {
            now.clock.drift = value;
        } else if (what == 2) {
            now.clock.age = value;
        } else if (what == 4) {
            now.gateLength = value;
        } else if (what == 5) {
            now.periodNumber = value;
        } else {
            now.correction = value;
        }
        return before;
    }

    private static boolean maySet(int what, int value) {
        switch (what) {
            case 1:
            case 6:
                return value >= -MOST_OFF && value <= MOST_OFF;
            case 2:
                return value >= -1 && value <= 1;
            case 4:
                return value >= 1 && value <= MOST_GATE;
            case 5:
                return value >= 1 && value <= MOST_PERIODS;
            default:
                return false;
        }
    }

    public int addSegment(int time, int period) throws IllegalArgumentException, IllegalStateException {
        requireWithin(time, Math.max(now.time, now.signal.lastTime()) + 1, END - 1);
        requireWithin(period, 0, MOST_PERIOD);
        if (now.signal.segments >= MOST_SEGMENTS) {
            throw new IllegalStateException();
        }
        keepForUndo();
        now.signal.append(time, period);
        return now.signal.segments - 1;
    }

    public int dropSegment() throws IllegalStateException {
        if (now.signal.came >= now.signal.segments) {
            throw new IllegalStateException();
        }
        keepForUndo();
        now.signal.segments--;
        return now.signal.segments;
    }

    public int drop(int measurement) throws IndexOutOfBoundsException {
        found(measurement);
        keepForUndo();
        now.forget(measurement);
        return now.kept;
    }

    public int undo() throws NoSuchElementException {
        if (undoable <= 0) {
            throw new NoSuchElementException();
        }
        undoable--;
        changes--;
        now.copyFrom(past[Math.floorMod(changes, MOST_UNDONE)]);
        return undoable;
    }

    // The output.

    public int printMeasurement(int measurement) throws IndexOutOfBoundsException {
        Measurement found = found(measurement);
        output.setLength(0);
        output.append(found.byPeriod ? 'p' : 'g').append(found.count).append(':');
        int known = output.length() + Math.max(1, digitsOf(found.count));
        output.append(found.value);
        for (int i = known; i < output.length(); i++) {
            output.setCharAt(i, 'x');
        }
        return output.length();
    }

    public int printSettings() {
        output.setLength(0);
        for (int what = 0; what <= 6; what++) {
            if (what > 0) {
                output.append(',');
            }
            output.append(setting(what));
        }
        return output.length();
    }

    public int printSignal() {
        output.setLength(0);
        for (int i = 0; i < now.signal.segments; i++) {
            if (i > 0) {
                output.append(' ');
            }
            output.append(now.signal.times[i]).append('/').append(now.signal.periods[i]);
            if (i < now.signal.came) {
                output.append('*');
            }
        }
        if (now.signal.segments == 0) {
            output.append('-');
        }
        return output.length();
    }

    public int outputByte(int index) {
        return index >= 0 && index < output.length() ? output.charAt(index) : -1;
    }

    // Saving.

    public int saveState() {
        saved.copyFrom(now);
        isSaved = true;
        return now.time;
    }

    public int restoreState() throws NoSuchElementException {
        if (!isSaved) {
            throw new NoSuchElementException();
        }
        now.copyFrom(saved);
        undoable = 0;
        return now.time;
    }

    // What several methods need.

    private static void require(boolean holds) {
        if (!holds) {
            throw new IllegalArgumentException();
        }
    }

    private static void requireWithin(int number, int least, int most) {
        require(number >= least && number <= most);
    }

    private Measurement found(int index) {
        Measurement found = now.at(index);
        if (found == null) {
            throw new IndexOutOfBoundsException();
        }
        return found;
    }

    private State fresh(State scratch) {
        scratch.copyFrom(now);
        return scratch;
    }

    private void keepForUndo() {
        past[Math.floorMod(changes, MOST_UNDONE)].copyFrom(now);
        changes++;
        undoable = Math.min(MOST_UNDONE, undoable + 1);
    }

    private void acceptChange() {
        latestReason = 0;
        latestCause = 0;
        keepForUndo();
    }

    private int accept(State measured) {
        acceptChange();
        now.copyFrom(measured);
        return now.latestNumber(VALUE);
    }

    private int refuse(int why, int behind) {
        latestReason = why;
        latestCause = behind;
        return NONE;
    }

    private static boolean isPrescale(int number) {
        for (int prescale : PRESCALES) {
            if (number == prescale) {
                return true;
            }
        }
        return false;
    }

    private static int digitsOf(int number) {
        int digits = 0;
        long power = 1;
        for (int i = 0; i < 10 && number >= power; i++) {
            digits++;
            power *= 10;
        }
        return digits;
    }

    private static int withinOff(int number) {
        return Math.max(-MOST_OFF, Math.min(MOST_OFF, number));
    }

    /** The clock; no signal has a say in when its edges come. */
    private static final class Clock {
        private static final int AGING = 100;
        private static final int UNAGED = AGING - 1;

        int step;
        int drift;
        int age;
        int rest;
        int next;
        int edges;
        int latest;

        void start(int newStep, int newDrift, int newAge) {
            step = newStep;
            drift = newDrift;
            age = newAge;
            rest = 0;
            next = newStep;
            edges = 0;
            latest = 0;
        }

        void copyFrom(Clock other) {
            step = other.step;
            drift = other.drift;
            age = other.age;
            rest = other.rest;
            next = other.next;
            edges = other.edges;
            latest = other.latest;
        }

        void steady() {
            drift = 0;
            age = 0;
            rest = 0;
        }

        void tick() {
            edges++;
            latest = next;
            if (edges % AGING == 0) {
                drift = withinOff(drift + age);
            }
            move(1);
        }

        /** So many steps with the same DRIFT: what is added to REST adds up, and so does what is carried. */
        private void move(int steps) {
            int sum = rest + steps * drift;
            next += steps * step + Math.floorDiv(sum, 1000);
            rest = Math.floorMod(sum, 1000);
        }

        void passEdges(int n) {
            for (int left = n; left > 0; left--) {
                if (edges % AGING == 0 && left >= AGING) {
                    leap();
                    left -= UNAGED;
                }
                tick();
            }
        }

        /** The edges come 9 ticks from one another at least, so the bound is far off. */
        void passTo(int time) {
            for (int i = 0; i < END && next <= time; i++) {
                if (edges % AGING == 0 && timeOfAging() <= time) {
                    leap();
                }
                tick();
            }
        }

        /** From an aging on, the edges up to the next aging can be passed at once, which long runs need. */
        private void leap() {
            move(UNAGED);
            edges += UNAGED;
        }

        /** When the edge of the next aging comes, from an aging on. */
        private int timeOfAging() {
            return next + UNAGED * step + Math.floorDiv(rest + UNAGED * drift, 1000);
        }

        int edgesToDrift(int wanted) {
            int way = wanted - drift;
            if (way == 0) {
                return 0;
            }
            if (way > 0 && age <= 0 || way < 0 && age >= 0) {
                return NONE;
            }
            return Math.abs(way) * AGING - edges % AGING;
        }
    }

    /** The signal with its segments and the prescaler; no clock has a say in when its edges come. */
    private static final class Signal {
        int period;
        int nextEdge;
        int edges;
        int outputs;
        int prescale;
        int prescaled;
        int edgesWhenSet;
        int outputsWhenSet;
        int segments;
        int came;
        final int[] times;
        final int[] periods;

        Signal() {
            times = new int[MOST_SEGMENTS];
            periods = new int[MOST_SEGMENTS];
        }

        void clear() {
            period = 0;
            nextEdge = NONE;
            edges = 0;
            outputs = 0;
            setUpPrescaler(1);
            segments = 0;
            came = 0;
        }

        void copyFrom(Signal other) {
            period = other.period;
            nextEdge = other.nextEdge;
            edges = other.edges;
            outputs = other.outputs;
            prescale = other.prescale;
            prescaled = other.prescaled;
            edgesWhenSet = other.edgesWhenSet;
            outputsWhenSet = other.outputsWhenSet;
            segments = other.segments;
            came = other.came;
            System.arraycopy(other.times, 0, times, 0, MOST_SEGMENTS);
            System.arraycopy(other.periods, 0, periods, 0, MOST_SEGMENTS);
        }

        void setUpPrescaler(int newPrescale) {
            prescale = newPrescale;
            prescaled = 0;
            edgesWhenSet = edges;
            outputsWhenSet = outputs;
        }

        boolean isSumRight() {
            return edges - edgesWhenSet == prescale * (outputs - outputsWhenSet) + prescaled;
        }

        int nextSegment() {
            return came >= 0 && came < segments ? times[came] : NONE;
        }

        int lastTime() {
            return segments > 0 ? times[segments - 1] : NONE;
        }

        void append(int time, int newPeriod) {
            if (segments < MOST_SEGMENTS) {
                times[segments] = time;
                periods[segments] = newPeriod;
                segments++;
            }
        }

        /** At one time segments come ahead of edges: these are passed, and the edges of that time too. */
        void passTo(int time) {
            pass(time, time);
        }

        /** Passes what comes ahead of a clock edge at a time: its segments, but not its edges. */
        void passAheadOfClock(int time) {
            pass(time, time - 1);
        }

        private void pass(int segmentsUpTo, int edgesUpTo) {
            for (int i = came; i < segments && times[i] <= segmentsUpTo; i++) {
                passEdgesUpTo(times[i] - 1);
                period = periods[i];
                nextEdge = firstEdge(i);
                came = i + 1;
            }
            passEdgesUpTo(edgesUpTo);
        }

        private void passEdgesUpTo(int time) {
            int coming = edgesUpTo(time, nextEdge, period);
            if (coming > 0 && prescale > 0) {
                edges += coming;
                nextEdge += coming * period;
                outputs += (prescaled + coming) / prescale;
                prescaled = (prescaled + coming) % prescale;
            }
        }

        private static int edgesUpTo(int time, int first, int every) {
            return first != NONE && first <= time && every > 0 ? (time - first) / every + 1 : 0;
        }

        private int firstEdge(int segment) {
            return periods[segment] > 0 ? times[segment] + periods[segment] : NONE;
        }

        int timeOfOutput(int n) {
            return timeAfter(n * prescale - prescaled);
        }

        /** The time of the n-th edge from now; NONE if it comes above END. */
        int timeAfter(int n) {
            int left = n;
            int first = nextEdge;
            int every = period;
            for (int i = came; i < segments; i++) {
                int coming = edgesUpTo(times[i] - 1, first, every);
                if (left <= coming) {
                    return first + (left - 1) * every;
                }
                left -= coming;
                first = firstEdge(i);
                every = periods[i];
            }
            return left <= edgesUpTo(END, first, every) ? first + (left - 1) * every : NONE;
        }

        int reasonForNoEnd() {
            int lastPeriod = came < segments ? periods[segments - 1] : period;
            return lastPeriod > 0 ? LATE : SILENT;
        }

        int longestGap(int from, int to) {
            int longest = 0;
            int latest = from;
            int first = nextEdge;
            int every = period;
            for (int i = came; i <= segments; i++) {
                int until = i < segments ? Math.min(times[i] - 1, to) : to;
                int coming = edgesUpTo(until, first, every);
                if (coming > 0) {
                    longest = Math.max(longest, first - latest);
                    longest = Math.max(longest, coming > 1 ? every : 0);
                    latest = first + (coming - 1) * every;
                }
                if (i >= segments || times[i] > to) {
                    break;
                }
                first = firstEdge(i);
                every = periods[i];
            }
            return Math.max(longest, to - latest);
        }
    }

    /** A measurement as it was made; it never changes, so several states may hold it. */
    private static final class Measurement {
        final boolean byPeriod;
        final int opened;
        final int closed;
        final int count;
        final int value;
        /** The GATE, or PERIODS. */
        final int size;
        final int correction;

        Measurement(boolean byPeriod, int opened, int closed, int count, int value, int size, int correction) {
            this.byPeriod = byPeriod;
            this.opened = opened;
            this.closed = closed;
            this.count = count;
            this.value = value;
            this.size = size;
            this.correction = correction;
        }

        int number(int what) {
            switch (what) {
                case 0:
                    return byPeriod ? 1 : 0;
                case 1:
                    return opened;
                case 2:
                    return closed;
                case COUNT:
                    return count;
                case VALUE:
                    return value;
                case 5:
                    return digitsOf(count);
                case 6:
                    return size;
                default:
                    return correction;
            }
        }
    }

    /** All that undoing and restoring bring back. */
    private static final class State {
        int time;
        int gateLength;
        int periodNumber;
        int correction;
        int made;
        int kept;
        final Clock clock;
        final Signal signal;
        final Measurement[] measurements;

        State() {
            clock = new Clock();
            signal = new Signal();
            measurements = new Measurement[MOST_KEPT];
            clear();
        }

        /** As by the text "clock 10;". */
        void clear() {
            time = 0;
            gateLength = 10;
            periodNumber = 1;
            correction = 0;
            made = 0;
            kept = 0;
            clock.start(10, 0, 0);
            signal.clear();
        }

        void copyFrom(State other) {
            time = other.time;
            gateLength = other.gateLength;
            periodNumber = other.periodNumber;
            correction = other.correction;
            made = other.made;
            kept = other.kept;
            clock.copyFrom(other.clock);
            signal.copyFrom(other.signal);
            for (int i = 0; i < kept; i++) {
                measurements[i] = other.measurements[i];
            }
        }

        void passTo(int newTime) {
            clock.passTo(newTime);
            signal.passTo(newTime);
            time = newTime;
        }

        /** Passes the next clock edge and what comes ahead of it; false, if that is above END. */
        boolean toClockEdge() {
            if (clock.next > END) {
                return false;
            }
            clock.tick();
            signal.passAheadOfClock(clock.latest);
            time = clock.latest;
            return true;
        }

        int measureByGate() {
            if (!toClockEdge()) {
                return LATE;
            }
            int opened = time;
            int before = signal.outputs;
            clock.passEdges(gateLength);
            if (clock.latest > END) {
                return LATE;
            }
            time = clock.latest;
            signal.passAheadOfClock(time);
            int count = signal.outputs - before;
            int value = valueOf(count, gateLength, correction);
            keep(new Measurement(false, opened, time, count, value, gateLength, correction));
            return NOT_REFUSED;
        }

        int measureByPeriod() {
            int begin = signal.timeOfOutput(1);
            int end = signal.timeOfOutput(1 + periodNumber);
            if (end == NONE) {
                return signal.reasonForNoEnd();
            }
            clock.passTo(begin);
            int before = clock.edges;
            passTo(end);
            int count = clock.edges - before;
            if (count == 0) {
                return SHORT;
            }
            int value = valueOf(periodNumber, count, correction);
            keep(new Measurement(true, begin, end, count, value, periodNumber, correction));
            return NOT_REFUSED;
        }

        int makeCalibration(int ticks) {
            if (time + ticks > END) {
                return LATE;
            }
            int before = clock.edges;
            passTo(time + ticks);
            int told = (clock.edges - before) * clock.step;
            if (told <= 0) {
                return NO_CLOCK;
            }
            correction = withinOff(ticks * 1000 / told - 1000);
            return NOT_REFUSED;
        }

        /** The value of so many outputs within so many clock edges. */
        int valueOf(int outputs, int clocks, int corrected) {
            long share = (long) clocks * clock.step * (1000 + corrected);
            return share > 0 ? (int) ((long) outputs * signal.prescale * 1000000000L / share) : 0;
        }

        private void keep(Measurement measurement) {
            if (kept >= MOST_KEPT) {
                forget(0);
            }
            measurements[kept] = measurement;
            kept++;
            made++;
        }

        void forget(int index) {
            for (int i = Math.max(0, index); i < kept - 1; i++) {
                measurements[i] = measurements[i + 1];
            }
            kept--;
        }

        Measurement at(int index) {
            return index >= 0 && index < kept ? measurements[index] : null;
        }

        int latestNumber(int what) {
            Measurement latest = at(kept - 1);
            return latest == null ? NONE : latest.number(what);
        }

        int valueAt(int index) {
            Measurement measurement = at(index);
            return measurement == null ? 0 : measurement.value;
        }

        int countAt(int index) {
            Measurement measurement = at(index);
            return measurement == null ? 0 : measurement.count;
        }

        int valuesBelow(int limit) {
            int below = 0;
            for (int i = 0; i < kept; i++) {
                if (valueAt(i) < limit) {
                    below++;
                }
            }
            return below;
        }
    }

    /** The input buffer, and how its text is read: from left to right, up to the first error. */
    private static final class SetupText {
        private static final int END_OF_TEXT = 0;
        private static final int WORD = 1;
        private static final int NUMBER = 2;
        private static final int SEMICOLON = 3;
        private static final int MINUS = 4;
        /** A number that is too long, or a byte that belongs to no token: it can stand nowhere. */
        private static final int WRONG = 5;
        private static final int LONGEST_NUMBER = 6;

        final byte[] text;
        int length;
        int error;
        int errorOffset;
        /** What the text tells so far, apart from the counter, which an error must not change. */
        final State draft;
        boolean prescaleTold;
        boolean gateTold;
        boolean periodsTold;
        /** The token that is looked at: its kind, its bytes, and what it tells if it is a number. */
        int kind;
        int start;
        int end;
        int number;
        /** The number that was taken last. */
        int taken;

        SetupText() {
            text = new byte[INPUT_SIZE];
            draft = new State();
            errorOffset = NONE;
        }

        void append(int fourBytes) {
            for (int shift = 24; shift >= 0 && length < text.length; shift -= 8) {
                text[length] = (byte) (fourBytes >> shift);
                length++;
            }
        }

        boolean read() {
            draft.clear();
            error = NO_ERROR;
            errorOffset = NONE;
            prescaleTold = false;
            gateTold = false;
            periodsTold = false;
            end = 0;
            advance();
            boolean fits = isWord("clock") ? readClock() : fail(SYNTAX);
            // Each statement takes a byte at least, so there are fewer of them than bytes.
            for (int i = 0; i < length && fits && kind != END_OF_TEXT; i++) {
                fits = readStatement();
            }
            return fits;
        }

        private boolean readClock() {
            advance();
            if (!takeNumber(10, 999)) {
                return false;
            }
            int step = taken;
            int drift = 0;
            int age = 0;
            if (isWord("drift")) {
                if (!takeSigned(MOST_OFF)) {
                    return false;
                }
                drift = taken;
            }
            if (isWord("age")) {
                if (!takeSigned(1)) {
                    return false;
                }
                age = taken;
            }
            draft.clock.start(step, drift, age);
            return takeSemicolon();
        }

        private boolean readStatement() {
            if (isWord("prescale")) {
                return readPrescale() && takeSemicolon();
            }
            if (isWord("gate")) {
                return readGate() && takeSemicolon();
            }
            if (isWord("periods")) {
                return readPeriods() && takeSemicolon();
            }
            if (isWord("signal")) {
                return readSignal() && takeSemicolon();
            }
            return fail(SYNTAX);
        }

        private boolean readPrescale() {
            if (prescaleTold) {
                return fail(REPEATED);
            }
            prescaleTold = true;
            advance();
            if (kind == NUMBER && !isPrescale(number)) {
                return fail(OUT_OF_RANGE);
            }
            if (!takeNumber(1, 16)) {
                return false;
            }
            draft.signal.setUpPrescaler(taken);
            return true;
        }

        private boolean readGate() {
            if (gateTold) {
                return fail(REPEATED);
            }
            gateTold = true;
            advance();
            if (!takeNumber(1, MOST_GATE)) {
                return false;
            }
            draft.gateLength = taken;
            return true;
        }

        private boolean readPeriods() {
            if (periodsTold) {
                return fail(REPEATED);
            }
            periodsTold = true;
            advance();
            if (!takeNumber(1, MOST_PERIODS)) {
                return false;
            }
            draft.periodNumber = taken;
            return true;
        }

        private boolean readSignal() {
            if (draft.signal.segments >= MOST_SEGMENTS) {
                return fail(TOO_MANY);
            }
            advance();
            if (kind == NUMBER && number <= draft.signal.lastTime()) {
                return fail(ORDER);
            }
            if (!takeNumber(0, 999999)) {
                return false;
            }
            int time = taken;
            if (!takeNumber(0, MOST_PERIOD)) {
                return false;
            }
            draft.signal.append(time, taken);
            return true;
        }

        private boolean takeNumber(int least, int most) {
            if (kind != NUMBER) {
                return fail(SYNTAX);
            }
            if (number < least || number > most) {
                return fail(OUT_OF_RANGE);
            }
            taken = number;
            advance();
            return true;
        }

        /** Takes what stands behind the word that is looked at. */
        private boolean takeSigned(int most) {
            advance();
            boolean negative = kind == MINUS;
            if (negative) {
                advance();
            }
            if (!takeNumber(0, most)) {
                return false;
            }
            taken = negative ? -taken : taken;
            return true;
        }

        private boolean takeSemicolon() {
            if (kind != SEMICOLON) {
                return fail(SYNTAX);
            }
            advance();
            return true;
        }

        private boolean fail(int code) {
            error = code;
            errorOffset = start;
            return false;
        }

        /** Goes on to the next token; whether it can stand at its place is looked at when it is taken. */
        private void advance() {
            start = end;
            for (int i = end; i < length && isSpace(byteAt(i)); i++) {
                start = i + 1;
            }
            kind = kindOf(byteAt(start));
            end = kind == END_OF_TEXT ? start : start + 1;
            boolean goesOn = kind == WORD || kind == NUMBER;
            for (int i = end; i < length && goesOn && kindOf(byteAt(i)) == kind; i++) {
                end = i + 1;
            }
            if (kind == NUMBER) {
                readDigits();
            }
        }

        private void readDigits() {
            if (end - start > LONGEST_NUMBER) {
                kind = WRONG;
                return;
            }
            number = 0;
            for (int i = start; i < end; i++) {
                number = number * 10 + byteAt(i) - '0';
            }
        }

        private boolean isWord(String word) {
            if (kind != WORD || end - start != word.length()) {
                return false;
            }
            for (int i = 0; i < word.length(); i++) {
                if (byteAt(start + i) != word.charAt(i)) {
                    return false;
                }
            }
            return true;
        }

        private int byteAt(int index) {
            return index >= 0 && index < length ? text[index] & 255 : NONE;
        }

        private static boolean isSpace(int sign) {
            return sign == ' ' || sign == '\n';
        }

        private static int kindOf(int sign) {
            if (sign == NONE) {
                return END_OF_TEXT;
            }
            if (sign >= 'a' && sign <= 'z') {
                return WORD;
            }
            if (sign >= '0' && sign <= '9') {
                return NUMBER;
            }
            return sign == ';' ? SEMICOLON : sign == '-' ? MINUS : WRONG;
        }
    }
}
