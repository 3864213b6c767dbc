/**
 * A keeper of sleep for a machine of PARTS. The document ../shared/DOC.md says what each public
 * method promises and what the words in capitals mean.
 *
 * <p>All rows are made with the object and used again: no call makes an object.
 */
public final class SleepKeeper {
    public static final int NONE = -1;

    private static final int TICKS = 64;
    private static final int PARTS = 6;
    private static final int PROGRAMS = 8;
    private static final int HOLDS = 20;
    private static final int TIMERS = 12;

    private static final int STATES = 4;
    private static final int AWAKE = 0;
    private static final int DOZE = 1;
    private static final int SLEEP = 2;
    private static final int OFF = 3;

    private static final int MOST_DRAIN = 99;
    private static final int MOST_COST = 999;
    private static final int MOST_RISING = 9;

    private static final int SHARES = 840;
    private static final int NOBODY = PROGRAMS;
    private static final int NO_SUCH_HOLD = NONE - 100000;

    private final Part[] parts = new Part[PARTS];
    private int partCount = 0;
    /** Of each PART those that it NEEDS itself, as bits. */
    private final int[] needs = new int[PARTS];
    private final Claims holds = new Claims(HOLDS);
    private final Claims timers = new Claims(TIMERS);
    private long wakings = 0L;
    private final Wants wants = new Wants();
    /** What would be wanted if a HOLD were not there; without() alone writes and reads it. */
    private final Wants supposed = new Wants();
    private final Spans idle = new Spans();

    public SleepKeeper() {
        for (int p = 0; p < PARTS; p++) {
            parts[p] = new Part();
        }
    }

    // ---- what changes the machine

    public int part(int awake, int doze, int sleep, int off) {
        if (partCount >= PARTS || !rises(off, sleep, doze, MOST_DRAIN) || awake < doze || awake > MOST_DRAIN) {
            return NONE;
        }
        parts[partCount].setDrains(awake, doze, sleep, off);
        partCount++;
        return partCount - 1;
    }

    public boolean rise(int p, int a, int b, int c, int x, int y, int z) {
        if (!isPart(p) || !rises(a, b, c, MOST_COST) || !rises(x, y, z, MOST_RISING)) {
            return false;
        }
        parts[p].setCosts(a, b, c);
        parts[p].setRising(x, y, z);
        return true;
    }

    public boolean need(int p, int q, boolean is) {
        if (!isPart(p) || !isPart(q) || hasPart(needs[p], q) == is) {
            return false;
        }
        if (is && leadsTo(q, p)) {
            return false;
        }
        needs[p] ^= 1 << q;
        gatherWants(wants, NONE);
        return true;
    }

    public int hold(int program, int p, int from, int to) {
        if (!isProgram(program) || !isPart(p) || from < 0 || from >= to || to > TICKS) {
            return NONE;
        }
        int i = holds.add(program, p, from, to);
        gatherWants(wants, NONE);
        return i;
    }

    public boolean back(int i, int tick) {
        if (!holds.has(i) || tick < holds.fromOf(i) || tick >= holds.toOf(i)) {
            return false;
        }
        holds.endAhead(i, tick);
        gatherWants(wants, NONE);
        return true;
    }

    public int timer(int program, int p, int first, int last) {
        if (!isProgram(program) || !isPart(p) || first < 0 || first > last || last >= TICKS) {
            return NONE;
        }
        int i = timers.add(program, p, first, last + 1);
        wakings = fewestWakings();
        gatherWants(wants, NONE);
        return i;
    }

    public boolean rule(int p, int doze, int sleep, int off) {
        if (!isPart(p) || !rises(doze, sleep, off, TICKS)) {
            return false;
        }
        parts[p].setThresholds(doze, sleep, off);
        return true;
    }

    public int learn(int p) {
        if (!isPart(p)) {
            return NONE;
        }
        layOutIdle(p);
        parts[p].takeBestThresholds(idle);
        return drainByRule(p);
    }

    // ---- what is there

    public int look(int what) {
        switch (what) {
            case 0:
                return partCount;
            case 1:
                return holds.size();
            case 2:
                return timers.size();
            case 3:
                return Long.bitCount(wakings);
            default:
                return NONE;
        }
    }

    public int held(int i, int what) {
        if (!holds.has(i)) {
            return NONE;
        }
        switch (what) {
            case 0:
                return holds.programOf(i);
            case 1:
                return holds.partOf(i);
            case 2:
                return holds.fromOf(i);
            case 3:
                return holds.toOf(i);
            default:
                return NONE;
        }
    }

    public int waking(int i) {
        if (i < 0) {
            return NONE;
        }
        int left = i;
        for (int tick = 0; tick < TICKS; tick++) {
            if (hasTick(wakings, tick)) {
                if (left == 0) {
                    return tick;
                }
                left--;
            }
        }
        return NONE;
    }

    public int fires(int i) {
        return timers.has(i) ? leastTick(wakings & timers.ticksOf(i)) : NONE;
    }

    // ---- who is WANTED, and the idle SPANS

    public int wanted(int p, int tick) {
        if (!isPart(p) || !isTick(tick)) {
            return NONE;
        }
        return hasTick(wants.ticksOf(p), tick) ? 1 : 0;
    }

    public long when(int p) {
        return isPart(p) ? wants.ticksOf(p) : 0L;
    }

    public int spans(int p) {
        if (!isPart(p)) {
            return NONE;
        }
        layOutIdle(p);
        return idle.size();
    }

    public int span(int p, int i, int what) {
        if (!isPart(p)) {
            return NONE;
        }
        layOutIdle(p);
        if (!idle.has(i)) {
            return NONE;
        }
        int len = idle.lenOf(i);
        boolean last = idle.endsAll(i);
        int best = parts[p].bestState(len, last);
        switch (what) {
            case 0:
                return idle.firstOf(i);
            case 1:
                return len;
            case 2:
                return best;
            case 3:
                return parts[p].sumIn(best, len, last);
            case 4:
                return parts[p].sumIn(AWAKE, len, last);
            case 5:
                return last || best == AWAKE ? NONE : idle.firstOf(i) + parts[p].restIn(best, len, last);
            default:
                return NONE;
        }
    }

    public int drain(int p) {
        return isPart(p) ? drainInPlan(p, wants.ticksOf(p)) : NONE;
    }

    public int ruled(int p) {
        return isPart(p) ? drainByRule(p) : NONE;
    }

    public int state(int p, int tick) {
        if (!isPart(p) || !isTick(tick)) {
            return NONE;
        }
        layOutIdle(p);
        int i = idle.find(tick);
        if (i == NONE) {
            return AWAKE;
        }
        int len = idle.lenOf(i);
        boolean last = idle.endsAll(i);
        int best = parts[p].bestState(len, last);
        return tick - idle.firstOf(i) < parts[p].restIn(best, len, last) ? best : AWAKE;
    }

    public int ruledState(int p, int tick) {
        if (!isPart(p) || !isTick(tick)) {
            return NONE;
        }
        layOutIdle(p);
        int i = idle.find(tick);
        if (i == NONE) {
            return AWAKE;
        }
        int place = tick - idle.firstOf(i);
        boolean still = place < parts[p].restByRule(idle.lenOf(i), idle.endsAll(i));
        return still ? parts[p].stateByRule(place) : AWAKE;
    }

    public int all() {
        return drainOfAll(wants);
    }

    public int without(int i) {
        if (!holds.has(i)) {
            return NO_SUCH_HOLD;
        }
        gatherWants(supposed, i);
        return drainOfAll(wants) - drainOfAll(supposed);
    }

    public int blame(int program) {
        if (program != NOBODY && !isProgram(program)) {
            return NONE;
        }
        int sum = 0;
        for (int p = 0; p < partCount; p++) {
            sum += program == NOBODY ? SHARES * drainInSpans(p) : blameIn(p, program);
        }
        return sum;
    }

    public int order(int tick, int i) {
        if (!isTick(tick) || i < 0) {
            return NONE;
        }
        int left = gettingUp(tick);
        for (int n = 0; n < PARTS && left != 0; n++) {
            int p = leastReady(left);
            if (n == i) {
                return p;
            }
            if (p != NONE) {
                left &= ~(1 << p);
            }
        }
        return NONE;
    }

    // ---- what can be

    private boolean isPart(int p) {
        return p >= 0 && p < partCount;
    }

    private static boolean isProgram(int program) {
        return program >= 0 && program < PROGRAMS;
    }

    private static boolean isTick(int tick) {
        return tick >= 0 && tick < TICKS;
    }

    private static boolean rises(int a, int b, int c, int most) {
        return a >= 0 && a <= b && b <= c && c <= most;
    }

    // ---- rows of bits

    private static boolean hasPart(int set, int p) {
        return (set >>> p & 1) != 0;
    }

    private static boolean hasTick(long row, int tick) {
        return (row >>> tick & 1L) != 0L;
    }

    private static int leastTick(long row) {
        for (int tick = 0; tick < TICKS; tick++) {
            if (hasTick(row, tick)) {
                return tick;
            }
        }
        return NONE;
    }

    /** The TICKS ahead of one; told apart at 64, because a shift by 64 is a shift by 0. */
    private static long ticksAhead(int tick) {
        return tick >= TICKS ? -1L : (1L << tick) - 1L;
    }

    // ---- NEEDS, WAKINGS and who is WANTED

    /** Whether NEEDS lead from one PART to another; each leads to itself. */
    private boolean leadsTo(int from, int to) {
        int seen = 1 << from;
        for (int step = 1; step < PARTS; step++) {
            for (int p = 0; p < PARTS; p++) {
                if (hasPart(seen, p)) {
                    seen |= needs[p];
                }
            }
        }
        return hasPart(seen, to);
    }

    private long fewestWakings() {
        long chosen = 0L;
        for (int n = 0; n < timers.size(); n++) {
            int end = timers.firstEndWithNone(chosen);
            if (end == NONE) {
                break;
            }
            chosen |= 1L << (end - 1);
        }
        return chosen;
    }

    private void gatherWants(Wants into, int leftOut) {
        into.clear();
        for (int i = 0; i < holds.size(); i++) {
            if (i != leftOut) {
                into.add(holds.programOf(i), holds.partOf(i), holds.ticksOf(i));
            }
        }
        for (int i = 0; i < timers.size(); i++) {
            int tick = leastTick(wakings & timers.ticksOf(i));
            if (tick != NONE) {
                into.add(timers.programOf(i), timers.partOf(i), 1L << tick);
            }
        }
        into.spread(needs);
    }

    private void layOutIdle(int p) {
        idle.layOut(wants.ticksOf(p));
    }

    // ---- DRAIN and BLAME

    private int drainInPlan(int p, long ticks) {
        idle.layOut(ticks);
        return parts[p].drainAwake(ticks) + parts[p].planned(idle);
    }

    private int drainByRule(int p) {
        layOutIdle(p);
        return parts[p].drainAwake(wants.ticksOf(p)) + parts[p].sumByRule(idle);
    }

    private int drainInSpans(int p) {
        layOutIdle(p);
        return parts[p].planned(idle);
    }

    private int drainOfAll(Wants of) {
        int sum = 0;
        for (int p = 0; p < partCount; p++) {
            sum += drainInPlan(p, of.ticksOf(p));
        }
        return sum;
    }

    private int blameIn(int p, int program) {
        int shares = 0;
        long ticks = wants.ticksBy(program, p);
        for (int tick = 0; tick < TICKS; tick++) {
            if (hasTick(ticks, tick)) {
                int programs = wants.programsAt(p, tick);
                shares += programs > 0 ? SHARES / programs : 0;
            }
        }
        return shares * parts[p].drainIn(AWAKE);
    }

    // ---- the ORDER

    private int gettingUp(int tick) {
        int set = 0;
        for (int p = 0; p < partCount; p++) {
            long ticks = wants.ticksOf(p);
            boolean wasUp = tick > 0 && hasTick(ticks, tick - 1);
            if (hasTick(ticks, tick) && !wasUp) {
                set |= 1 << p;
            }
        }
        return set;
    }

    private int leastReady(int left) {
        for (int p = 0; p < PARTS; p++) {
            if (hasPart(left, p) && (needs[p] & left) == 0) {
                return p;
            }
        }
        return NONE;
    }

    /** What PROGRAMS ask for, HOLDS or windows of TIMERS: TICKS from .. to - 1, numbered as they come. */
    private static final class Claims {
        private final int[] programs;
        private final int[] wantedParts;
        private final int[] froms;
        private final int[] tos;
        private int count = 0;

        Claims(int most) {
            programs = new int[most];
            wantedParts = new int[most];
            froms = new int[most];
            tos = new int[most];
        }

        int add(int program, int p, int from, int to) {
            if (count >= programs.length) {
                return NONE;
            }
            programs[count] = program;
            wantedParts[count] = p;
            froms[count] = from;
            tos[count] = to;
            count++;
            return count - 1;
        }

        int size() {
            return count;
        }

        boolean has(int i) {
            return i >= 0 && i < count;
        }

        int programOf(int i) {
            return programs[i];
        }

        int partOf(int i) {
            return wantedParts[i];
        }

        int fromOf(int i) {
            return froms[i];
        }

        int toOf(int i) {
            return tos[i];
        }

        long ticksOf(int i) {
            return ticksAhead(tos[i]) & ~ticksAhead(froms[i]);
        }

        void endAhead(int i, int tick) {
            tos[i] = tick;
        }

        /** The least end among those that have none of the TICKS chosen; NONE if each has one. */
        int firstEndWithNone(long chosen) {
            int least = NONE;
            for (int i = 0; i < count; i++) {
                boolean hasNone = (ticksOf(i) & chosen) == 0L;
                if (hasNone && (least == NONE || tos[i] < least)) {
                    least = tos[i];
                }
            }
            return least;
        }
    }

    /** Who wants whom: for each PART and PROGRAM a row of TICKS, so that WANTED and BLAME have one source. */
    private static final class Wants {
        private final long[] rows = new long[PARTS * PROGRAMS];

        void clear() {
            for (int i = 0; i < rows.length; i++) {
                rows[i] = 0L;
            }
        }

        void add(int program, int p, long ticks) {
            rows[p * PROGRAMS + program] |= ticks;
        }

        /** As NEEDS have no ring, a chain of them has a step less than there are PARTS. */
        void spread(int[] needs) {
            for (int step = 1; step < PARTS; step++) {
                for (int p = 0; p < PARTS; p++) {
                    for (int q = 0; q < PARTS; q++) {
                        if (hasPart(needs[p], q)) {
                            addAll(p, q);
                        }
                    }
                }
            }
        }

        private void addAll(int from, int to) {
            for (int program = 0; program < PROGRAMS; program++) {
                add(program, to, ticksBy(program, from));
            }
        }

        long ticksBy(int program, int p) {
            return rows[p * PROGRAMS + program];
        }

        long ticksOf(int p) {
            long ticks = 0L;
            for (int program = 0; program < PROGRAMS; program++) {
                ticks |= ticksBy(program, p);
            }
            return ticks;
        }

        int programsAt(int p, int tick) {
            int programs = 0;
            for (int program = 0; program < PROGRAMS; program++) {
                if (hasTick(ticksBy(program, p), tick)) {
                    programs++;
                }
            }
            return programs;
        }
    }

    /** The SPANS of one PART at a time, laid out anew for whichever is asked about. */
    private static final class Spans {
        private final int[] firsts = new int[TICKS];
        private final int[] lens = new int[TICKS];
        private int count = 0;

        void layOut(long ticks) {
            count = 0;
            int len = 0;
            for (int tick = 0; tick < TICKS; tick++) {
                len = hasTick(ticks, tick) ? 0 : len + 1;
                if (len == 1) {
                    firsts[count] = tick;
                    count++;
                }
                if (len > 0) {
                    lens[count - 1] = len;
                }
            }
        }

        int size() {
            return count;
        }

        boolean has(int i) {
            return i >= 0 && i < count;
        }

        int firstOf(int i) {
            return firsts[i];
        }

        int lenOf(int i) {
            return lens[i];
        }

        boolean endsAll(int i) {
            return firsts[i] + lens[i] == TICKS;
        }

        int find(int tick) {
            for (int i = 0; i < count; i++) {
                if (tick >= firsts[i] && tick < firsts[i] + lens[i]) {
                    return i;
                }
            }
            return NONE;
        }

        int longest() {
            int most = 0;
            for (int i = 0; i < count; i++) {
                most = Math.max(most, lens[i]);
            }
            return most;
        }
    }

    /** A PART's numbers, and what they make of a SPAN; `last` is a SPAN at the end of all TICKS. */
    private static final class Part {
        private final int[] drains = new int[STATES];
        private final int[] costs = new int[STATES];
        private final int[] rising = new int[STATES];
        /** The places of a SPAN at which the RULE's STATES begin, with an end behind OFF. */
        private final int[] begins = {0, TICKS, TICKS, TICKS, TICKS};

        void setDrains(int awake, int doze, int sleep, int off) {
            drains[AWAKE] = awake;
            drains[DOZE] = doze;
            drains[SLEEP] = sleep;
            drains[OFF] = off;
        }

        void setCosts(int doze, int sleep, int off) {
            costs[DOZE] = doze;
            costs[SLEEP] = sleep;
            costs[OFF] = off;
        }

        void setRising(int doze, int sleep, int off) {
            rising[DOZE] = doze;
            rising[SLEEP] = sleep;
            rising[OFF] = off;
        }

        void setThresholds(int doze, int sleep, int off) {
            begins[DOZE] = doze;
            begins[SLEEP] = sleep;
            begins[OFF] = off;
        }

        int drainIn(int s) {
            return drains[s];
        }

        int drainAwake(long ticks) {
            return Long.bitCount(ticks) * drains[AWAKE];
        }

        /** For how many TICKS of a SPAN it is in a STATE of the PLAN; below 0 if that can't be. */
        int restIn(int s, int len, boolean last) {
            return last ? len : len - rising[s];
        }

        int sumIn(int s, int len, boolean last) {
            int rest = restIn(s, len, last);
            return rest * drains[s] + (len - rest) * drains[AWAKE] + (last ? 0 : costs[s]);
        }

        int bestState(int len, boolean last) {
            int best = AWAKE;
            for (int s = DOZE; s < STATES; s++) {
                boolean can = restIn(s, len, last) >= 0;
                if (can && sumIn(s, len, last) < sumIn(best, len, last)) {
                    best = s;
                }
            }
            return best;
        }

        int planned(Spans spans) {
            int sum = 0;
            for (int i = 0; i < spans.size(); i++) {
                int len = spans.lenOf(i);
                boolean last = spans.endsAll(i);
                sum += sumIn(bestState(len, last), len, last);
            }
            return sum;
        }

        /** At a place ahead of the SPAN, -1, it is AWAKE. */
        int stateByRule(int place) {
            for (int s = OFF; s > AWAKE; s--) {
                if (place >= begins[s]) {
                    return s;
                }
            }
            return AWAKE;
        }

        /**
         * The place at which it RISES by its RULE, or len if it does not. Deeper STATES come later in
         * a SPAN, so the deepest one out of which it can RISE in time has the latest place.
         */
        int restByRule(int len, boolean last) {
            if (last) {
                return len;
            }
            for (int s = OFF; s > AWAKE; s--) {
                int latest = len - rising[s];
                if (latest > begins[s] && begins[s + 1] > begins[s]) {
                    return latest < begins[s + 1] ? latest : begins[s + 1];
                }
            }
            return len < begins[DOZE] ? len : begins[DOZE];
        }

        int sumByRule(Spans spans) {
            int sum = 0;
            for (int i = 0; i < spans.size(); i++) {
                sum += spanByRule(spans.lenOf(i), spans.endsAll(i));
            }
            return sum;
        }

        private int spanByRule(int len, boolean last) {
            int rest = restByRule(len, last);
            int sum = (len - rest) * drains[AWAKE];
            for (int s = AWAKE; s < STATES; s++) {
                sum += drains[s] * (Math.min(begins[s + 1], rest) - Math.min(begins[s], rest));
            }
            return last ? sum : sum + costs[stateByRule(rest - 1)];
        }

        private int sumOfTry(Spans spans, int doze, int sleep, int off) {
            setThresholds(doze, sleep, off);
            return sumByRule(spans);
        }

        /**
         * The thresholds with the least sum, the first ones by their numbers. A threshold above the
         * longest SPAN does as that length does, so none above it can be the first.
         */
        void takeBestThresholds(Spans spans) {
            int longest = spans.longest();
            int bestDoze = 0;
            int bestSleep = 0;
            int bestOff = 0;
            int least = sumOfTry(spans, 0, 0, 0);
            for (int sleep = 0; sleep <= longest; sleep++) {
                int later = bestLaterOff(spans, sleep, longest);
                for (int doze = 0; doze <= sleep; doze++) {
                    int atOnce = sumOfTry(spans, doze, sleep, sleep);
                    int after = sumOfTry(spans, doze, sleep, later);
                    int sum = Math.min(atOnce, after);
                    // sleep goes up in the outer loop: at the same doze an earlier one is the first
                    if (sum < least || sum == least && doze < bestDoze) {
                        least = sum;
                        bestDoze = doze;
                        bestSleep = sleep;
                        bestOff = atOnce <= after ? sleep : later;
                    }
                }
            }
            setThresholds(bestDoze, bestSleep, bestOff);
        }

        /**
         * The best threshold of OFF behind that of SLEEP (that one, if there is none behind). It is
         * the same for every threshold of DOZE: if SLEEP comes at all, which SPANS get as far as
         * SLEEP hangs on its own threshold alone, and what they drain ahead of it adds the same to each sum.
         */
        private int bestLaterOff(Spans spans, int sleep, int longest) {
            int best = sleep;
            int least = 0;
            for (int off = sleep + 1; off <= longest; off++) {
                int sum = sumOfTry(spans, 0, sleep, off);
                if (best == sleep || sum < least) {
                    best = off;
                    least = sum;
                }
            }
            return best;
        }
    }
}
