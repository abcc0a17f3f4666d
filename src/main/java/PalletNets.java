import java.util.Arrays;

/** A workbench for small Petri nets; the project's document says what each method promises. */
public final class PalletNets {
    public static final int NONE = -1, BAD = -2, NO = -3, FULL = -4;

    private static final int PLACES = 10;
    private static final int STEPS = 8;
    private static final int GUARDS = 5;
    private static final int TOKENS = 15;
    private static final int ARC = 2;
    private static final int COST = 9;
    private static final int LEAST = 9;
    private static final int PALLETS = 9;
    private static final int MACHINES = 4;
    private static final int SEED = 999999;
    private static final int RUN = 8;
    private static final int BYTES = 120;
    private static final int BYTE = 127;
    private static final int MARKINGS = 200;
    private static final int KEPT = 5;

    private final State now = new State();
    private final State before = new State();
    private final State[] kept = new State[KEPT];
    private int keptCount = 0;

    private final Search fromHome = new Search();
    private boolean searched = false;
    private final Search aside = new Search();

    private final Invariants invariants = new Invariants();
    private final Siphons siphons = new Siphons();
    private boolean analysed = false;

    private final Reader reader = new Reader();
    private final int[] route = new int[MACHINES];

    private int bads = 0;
    private int nos = 0;
    private int fulls = 0;

    public PalletNets() {
        for (int i = 0; i < KEPT; i++) {
            kept[i] = new State();
        }
    }

    // ---- the net

    public int place(int v) {
        if (!within(v, 0, TOKENS)) {
            return refuse(BAD);
        }
        if (now.places >= PLACES) {
            return refuse(FULL);
        }
        save();
        now.addPlace(v);
        renew();
        return now.places - 1;
    }

    public int step(int c) {
        if (!within(c, 0, COST)) {
            return refuse(BAD);
        }
        if (now.steps >= STEPS) {
            return refuse(FULL);
        }
        save();
        now.addStep(c, 0L, 0L);
        renew();
        return now.steps - 1;
    }

    public int arc(int t, int p, int way, int w) {
        if (!isStep(t) || !isPlace(p) || !within(way, 0, 1) || !within(w, 0, ARC)) {
            return refuse(BAD);
        }
        save();
        long[] arcs = way == 0 ? now.takes : now.gives;
        int previous = Marks.tokens(arcs[t], p);
        arcs[t] = Marks.with(arcs[t], p, w);
        renew();
        return previous;
    }

    public int start(int p, int v) {
        if (!isPlace(p) || !within(v, 0, TOKENS)) {
            return refuse(BAD);
        }
        save();
        int previous = Marks.tokens(now.starts, p);
        now.starts = Marks.with(now.starts, p, v);
        renew();
        return previous;
    }

    public int cost(int t, int c) {
        if (!isStep(t) || !within(c, 0, COST)) {
            return refuse(BAD);
        }
        save();
        int previous = now.costs[t];
        now.costs[t] = c;
        return previous;
    }

    public int line(int k, int a, int b) {
        if (!within(k, 1, PALLETS) || !isPlace(a) || !isPlace(b)) {
            return refuse(BAD);
        }
        if (!now.hasRoomForLine(2)) {
            return refuse(FULL);
        }
        save();
        int store = now.places;
        route[0] = a;
        route[1] = b;
        now.addLine(k, route, 2);
        renew();
        return store;
    }

    public int draw(int seed, int n, int m) {
        if (!within(seed, 0, SEED) || !within(n, 1, PLACES) || !within(m, 1, STEPS)) {
            return refuse(BAD);
        }
        save();
        now.drawNet(seed, n, m);
        renew();
        return homeSearch().count;
    }

    public int anew() {
        save();
        int previous = now.places;
        now.removeNet();
        now.keeperOn = false;
        renew();
        return previous;
    }

    public int of(int p, int what) {
        if (!isPlace(p) || !within(what, 0, 5)) {
            return refuse(BAD);
        }
        switch (what) {
            case 0: return Marks.tokens(now.starts, p);
            case 1: return Marks.tokens(now.present, p);
            case 2: return Marks.tokens(now.lost, p);
            case 3:
                analyse();
                return invariants.bound(p, now.starts);
            case 4: return homeSearch().mostIn(1 << p);
            default: return homeSearch().leastIn(1 << p);
        }
    }

    public int arcOf(int t, int p, int way) {
        if (!isStep(t) || !isPlace(p) || !within(way, 0, 1)) {
            return refuse(BAD);
        }
        return Marks.tokens(way == 0 ? now.takes[t] : now.gives[t], p);
    }

    public int stepOf(int t, int what) {
        if (!isStep(t) || !within(what, 0, 2)) {
            return refuse(BAD);
        }
        switch (what) {
            case 0: return now.costs[t];
            case 1: return Marks.sumIn(now.takes[t], now.allPlaces());
            default: return Marks.sumIn(now.gives[t], now.allPlaces());
        }
    }

    // ---- runs

    public int can(int t) {
        return isStep(t) ? hindrance(t) : refuse(BAD);
    }

    public int goes(int t) {
        if (!isStep(t)) {
            return refuse(BAD);
        }
        if (hindrance(t) != 0) {
            return refuse(NO);
        }
        save();
        now.present = now.after(now.present, t);
        int able = 0;
        for (int u = 0; u < now.steps; u++) {
            if (now.hindrance(now.present, u, NONE) == 0) {
                able++;
            }
        }
        return able;
    }

    public int runs(int n, int by) {
        if (!within(n, 1, RUN) || !within(by, 0, 2)) {
            return refuse(BAD);
        }
        save();
        int gone = 0;
        int t = chosen(by);
        while (gone < n && t != NONE) {
            now.present = now.after(now.present, t);
            gone++;
            t = gone < n ? chosen(by) : NONE;
        }
        return gone;
    }

    public int restarts() {
        save();
        now.present = now.homeMarking();
        return Marks.sumIn(now.present, now.allPlaces());
    }

    public int loses(int p) {
        if (!isPlace(p)) {
            return refuse(BAD);
        }
        if (Marks.tokens(now.present, p) == 0 || Marks.tokens(now.lost, p) >= Marks.tokens(now.starts, p)) {
            return refuse(NO);
        }
        save();
        now.present -= Marks.one(p);
        now.lost += Marks.one(p);
        return Marks.tokens(now.present, p);
    }

    public int returns(int p) {
        if (!isPlace(p)) {
            return refuse(BAD);
        }
        if (Marks.tokens(now.lost, p) == 0 || Marks.tokens(now.present, p) >= TOKENS) {
            return refuse(NO);
        }
        save();
        now.present += Marks.one(p);
        now.lost -= Marks.one(p);
        return Marks.tokens(now.lost, p);
    }

    public int keeper(int v) {
        if (!within(v, 0, 1)) {
            return refuse(BAD);
        }
        save();
        int previous = now.keeperOn ? 1 : 0;
        now.keeperOn = v == 1;
        return previous;
    }

    // ---- sums

    public int sums() {
        analyse();
        return invariants.count;
    }

    public int sum(int k, int p) {
        if (k < 0 || !isPlace(p)) {
            return refuse(BAD);
        }
        analyse();
        return k < invariants.count ? invariants.weight(k, p) : NONE;
    }

    public int value(int k, int what) {
        if (k < 0 || !within(what, 0, 3)) {
            return refuse(BAD);
        }
        analyse();
        if (k >= invariants.count) {
            return NONE;
        }
        switch (what) {
            case 0: return invariants.weighted(k, now.starts);
            case 1: return invariants.weighted(k, now.present);
            case 2: return invariants.weighted(k, now.homeMarking());
            default: return invariants.supports[k];
        }
    }

    // ---- stuck sets and guards

    public int stucks() {
        analyse();
        return siphons.count;
    }

    public int stuck(int k, int what) {
        if (k < 0 || !within(what, 0, 5)) {
            return refuse(BAD);
        }
        analyse();
        if (k >= siphons.count) {
            return NONE;
        }
        int set = siphons.sets[k];
        switch (what) {
            case 0: return set;
            case 1: return Marks.sumIn(now.starts, set);
            case 2: return Marks.sumIn(now.present, set);
            case 3: return siphons.heldPart(set);
            case 4: return isSafe(set) ? 1 : 0;
            default: return homeSearch().leastIn(set);
        }
    }

    public int sort(int set) {
        if (!isSet(set)) {
            return refuse(BAD);
        }
        analyse();
        int siphon = siphons.isSiphon(set) ? 1 : 0;
        int trap = siphons.isTrap(set) ? 2 : 0;
        return siphon + trap;
    }

    public int guard(int set, int least) {
        if (!isSet(set) || !within(least, 1, LEAST)) {
            return refuse(BAD);
        }
        if (Marks.sumIn(now.homeMarking(), set) < least) {
            return refuse(NO);
        }
        if (now.guardCount >= GUARDS) {
            return refuse(FULL);
        }
        save();
        now.addGuard(set, least);
        return now.guardCount - 1;
    }

    public int guards() {
        save();
        analyse();
        int added = 0;
        for (int k = 0; k < siphons.count && now.guardCount < GUARDS; k++) {
            int set = siphons.sets[k];
            if (!isSafe(set) && Marks.sumIn(now.homeMarking(), set) > 0 && !now.isGuarded(set)) {
                now.addGuard(set, 1);
                added++;
            }
        }
        return added;
    }

    public int drop(int g) {
        if (!isGuard(g)) {
            return refuse(BAD);
        }
        save();
        now.removeGuard(g);
        return now.guardCount;
    }

    public int guardOf(int g, int what) {
        if (!isGuard(g) || !within(what, 0, 4)) {
            return refuse(BAD);
        }
        int set = now.guardSets[g];
        switch (what) {
            case 0: return set;
            case 1: return now.guardLeasts[g];
            case 2: return Marks.sumIn(now.present, set);
            case 3: return now.barredBy(g);
            default:
                aside.spread(now, now.homeMarking(), g, NONE);
                return aside.leastIn(set) >= now.guardLeasts[g] ? 1 : 0;
        }
    }

    // ---- all that can come

    public int all(int what) {
        if (!within(what, 0, 5)) {
            return refuse(BAD);
        }
        Search search = homeSearch();
        switch (what) {
            case 0: return search.count;
            case 1: return search.isComplete(now.steps) ? 1 : 0;
            case 2: return search.deadlocks(now.steps);
            case 3:
                search.measure(now, 0);
                return search.wayless();
            case 4: return search.liveSteps(now.steps);
            default: return search.mostIn(now.allPlaces());
        }
    }

    public long found(int m, int what) {
        if (m < 0 || !within(what, 0, 3)) {
            return refuse(BAD);
        }
        Search search = homeSearch();
        if (m >= search.count) {
            return NONE;
        }
        switch (what) {
            case 0: return Marks.hexadecimal(search.markings[m]);
            case 1: return search.depths[m];
            case 2:
                search.measure(now, 0);
                return search.ways[m] == NONE ? 0 : 1;
            default: return search.ableSteps(m, now.steps);
        }
    }

    public int home(int what) {
        if (!within(what, 0, 2)) {
            return refuse(BAD);
        }
        aside.spread(now, now.present, NONE, NONE);
        aside.measure(now, aside.indexOf(now.homeMarking()));
        int way = aside.ways[0];
        if (way == NONE) {
            return NONE;
        }
        switch (what) {
            case 0: return way / Search.PER_COST;
            case 1: return way % Search.PER_COST;
            default: return aside.firstStep(now);
        }
    }

    // ---- texts

    public int type(int c) {
        if (!within(c, 0, BYTE)) {
            return refuse(BAD);
        }
        if (reader.size >= BYTES) {
            return refuse(FULL);
        }
        reader.text[reader.size] = c;
        reader.size++;
        return reader.size;
    }

    public int clear() {
        int previous = reader.size;
        reader.size = 0;
        return previous;
    }

    public int reads() {
        before.copyFrom(now);
        int orders = reader.carryOut(now);
        if (reader.fault != NONE) {
            now.copyFrom(before);
            return -10 - reader.fault;
        }
        keep(before);
        forget();
        return orders;
    }

    public int back() {
        if (keptCount == 0) {
            return refuse(NO);
        }
        keptCount--;
        now.copyFrom(kept[keptCount]);
        forget();
        return keptCount;
    }

    public int told(int what) {
        switch (what) {
            case 0: return bads;
            case 1: return nos;
            case 2: return fulls;
            case 3: return reader.size;
            case 4: return now.places;
            case 5: return now.steps;
            case 6: return now.guardCount;
            case 7: return now.keeperOn ? 1 : 0;
            case 8: return keptCount;
            default: return refuse(BAD);
        }
    }

    public long digest() {
        long h = 2221L;
        for (int what = 0; what <= 8; what++) {
            h = 31L * h + told(what);
        }
        for (int p = 0; p < now.places; p++) {
            for (int what = 0; what <= 2; what++) {
                h = 31L * h + of(p, what);
            }
        }
        for (int t = 0; t < now.steps; t++) {
            for (int what = 0; what <= 2; what++) {
                h = 31L * h + stepOf(t, what);
            }
        }
        for (int g = 0; g < now.guardCount; g++) {
            h = 31L * h + guardOf(g, 0);
            h = 31L * h + guardOf(g, 1);
        }
        for (int what = 0; what <= 3; what++) {
            h = 31L * h + all(what);
        }
        h = 31L * h + sums();
        return 31L * h + stucks();
    }

    // ---- what the methods share

    private static boolean within(int v, int least, int most) {
        return v >= least && v <= most;
    }

    private boolean isPlace(int p) {
        return within(p, 0, now.places - 1);
    }

    private boolean isStep(int t) {
        return within(t, 0, now.steps - 1);
    }

    private boolean isGuard(int g) {
        return within(g, 0, now.guardCount - 1);
    }

    private boolean isSet(int set) {
        return within(set, 1, now.allPlaces());
    }

    private boolean isSafe(int siphon) {
        return Marks.sumIn(now.starts, siphons.heldPart(siphon)) > 0;
    }

    private int refuse(int code) {
        switch (code) {
            case BAD:
                bads++;
                break;
            case NO:
                nos++;
                break;
            default:
                fulls++;
                break;
        }
        return code;
    }

    /** Stands at the head of every change: the search from home may not outlive any of them. */
    private void save() {
        keep(now);
        searched = false;
    }

    private void keep(State state) {
        if (keptCount >= KEPT) {
            State oldest = kept[0];
            for (int i = 1; i < KEPT; i++) {
                kept[i - 1] = kept[i];
            }
            kept[KEPT - 1] = oldest;
            keptCount = KEPT - 1;
        }
        kept[keptCount].copyFrom(state);
        keptCount++;
    }

    /** Invariants and siphons depend on places and arcs alone, which change only in calls that renew. */
    private void renew() {
        now.renewRun();
        forget();
    }

    private void forget() {
        searched = false;
        analysed = false;
    }

    private Search homeSearch() {
        if (!searched) {
            fromHome.spread(now, now.homeMarking(), NONE, NONE);
            searched = true;
        }
        return fromHome;
    }

    /** Stands before every use of the invariants and siphons. */
    private void analyse() {
        if (!analysed) {
            invariants.findAll(now);
            siphons.findAll(now);
            analysed = true;
        }
    }

    private int hindrance(int t) {
        int reason = now.hindrance(now.present, t, NONE);
        if (reason != 0 || !now.keeperOn) {
            return reason;
        }
        long goal = now.homeMarking();
        aside.spread(now, now.after(now.present, t), NONE, goal);
        return aside.indexOf(goal) == NONE ? 4 : 0;
    }

    private int chosen(int by) {
        int best = NONE;
        for (int i = 0; i < now.steps; i++) {
            int t = by == 2 ? now.steps - 1 - i : i;
            boolean better = best == NONE || (by == 1 && now.costs[t] < now.costs[best]);
            if (better && hindrance(t) == 0) {
                best = t;
            }
        }
        return best;
    }

    /**
     * Tokens of all places in one long, five bits a place: four hold 0 to 15, the fifth stays free, so that
     * all places are compared and added at once without one place's bits reaching the next.
     */
    private static final class Marks {
        static final int WIDTH = 5;
        static final long FIELD = 31L;
        static final long SPARE = 0b10000_10000_10000_10000_10000_10000_10000_10000_10000_10000L;

        static long one(int p) {
            return 1L << (WIDTH * p);
        }

        static int tokens(long marking, int p) {
            return (int) ((marking >> (WIDTH * p)) & FIELD);
        }

        static long with(long marking, int p, int v) {
            return (marking & ~(FIELD << (WIDTH * p))) | ((long) v << (WIDTH * p));
        }

        static int sumIn(long marking, int set) {
            int total = 0;
            long rest = marking;
            for (int p = 0; p < PLACES; p++) {
                if ((set & (1 << p)) != 0) {
                    total += (int) (rest & FIELD);
                }
                rest >>= WIDTH;
            }
            return total;
        }

        static boolean covers(long marking, long taken) {
            return (((marking | SPARE) - taken) & SPARE) == SPARE;
        }

        static boolean overflows(long marking) {
            return (marking & SPARE) != 0L;
        }

        static int placesOf(long marking) {
            int set = 0;
            for (int p = 0; p < PLACES; p++) {
                if (tokens(marking, p) != 0) {
                    set |= 1 << p;
                }
            }
            return set;
        }

        static long hexadecimal(long marking) {
            long packed = 0L;
            for (int p = PLACES - 1; p >= 0; p--) {
                packed = 16L * packed + tokens(marking, p);
            }
            return packed;
        }
    }

    /** All that back() restores: net, guards, lost tokens, present marking, keeper. */
    private static final class State {
        int places = 0;
        int steps = 0;
        int guardCount = 0;
        boolean keeperOn = false;
        long starts = 0L;
        long lost = 0L;
        long present = 0L;
        final long[] takes = new long[STEPS];
        final long[] gives = new long[STEPS];
        final int[] costs = new int[STEPS];
        final int[] guardSets = new int[GUARDS];
        final int[] guardLeasts = new int[GUARDS];

        void copyFrom(State other) {
            places = other.places;
            steps = other.steps;
            guardCount = other.guardCount;
            keeperOn = other.keeperOn;
            starts = other.starts;
            lost = other.lost;
            present = other.present;
            System.arraycopy(other.takes, 0, takes, 0, STEPS);
            System.arraycopy(other.gives, 0, gives, 0, STEPS);
            System.arraycopy(other.costs, 0, costs, 0, STEPS);
            System.arraycopy(other.guardSets, 0, guardSets, 0, GUARDS);
            System.arraycopy(other.guardLeasts, 0, guardLeasts, 0, GUARDS);
        }

        int allPlaces() {
            return (1 << places) - 1;
        }

        /** No place has more lost tokens than its start, so no place borrows from the next. */
        long homeMarking() {
            return starts - lost;
        }

        void renewRun() {
            guardCount = 0;
            lost = 0L;
            present = starts;
        }

        void removeNet() {
            places = 0;
            steps = 0;
            starts = 0L;
        }

        void addPlace(int v) {
            if (places < PLACES) {
                starts = Marks.with(starts, places, v);
                places++;
            }
        }

        void addStep(int c, long taken, long given) {
            if (steps < STEPS) {
                costs[steps] = c;
                takes[steps] = taken;
                gives[steps] = given;
                steps++;
            }
        }

        boolean hasRoomForLine(int machines) {
            return places + machines + 1 <= PLACES && steps + machines + 1 <= STEPS;
        }

        void addLine(int pallets, int[] machines, int n) {
            int store = places;
            addPlace(pallets);
            for (int i = 0; i < n; i++) {
                addPlace(0);
            }
            for (int i = 0; i <= n; i++) {
                // the store stands right before q1, and each q right before the next
                long taken = Marks.one(store + i);
                long given = Marks.one(i < n ? store + i + 1 : store);
                if (i < n) {
                    taken += Marks.one(machines[i]);
                }
                if (i > 0) {
                    given += Marks.one(machines[i - 1]);
                }
                addStep(1, taken, given);
            }
        }

        void drawNet(int seed, int n, int m) {
            removeNet();
            long s = seed;
            for (int p = 0; p < n; p++) {
                s = follower(s);
                addPlace(drawn(s, 3));
            }
            for (int t = 0; t < m; t++) {
                s = follower(s);
                int c = drawn(s, 10);
                long taken = 0L;
                long given = 0L;
                for (int p = 0; p < n; p++) {
                    s = follower(s);
                    int kind = drawn(s, 9);
                    taken += Marks.one(p) * drawnTakes(kind);
                    given += Marks.one(p) * drawnGives(kind);
                }
                addStep(c, taken, given);
            }
        }

        private static long follower(long s) {
            return (1103515245L * s + 12345L) % 2147483648L;
        }

        private static int drawn(long s, int below) {
            return (int) ((s / 65536L) % below);
        }

        private static int drawnTakes(int kind) {
            switch (kind) {
                case 0: return 1;
                case 1: return 2;
                case 4: return 1;
                default: return 0;
            }
        }

        private static int drawnGives(int kind) {
            switch (kind) {
                case 2: return 1;
                case 3: return 2;
                case 4: return 1;
                default: return 0;
            }
        }

        void addGuard(int set, int least) {
            if (guardCount < GUARDS) {
                guardSets[guardCount] = set;
                guardLeasts[guardCount] = least;
                guardCount++;
            }
        }

        void removeGuard(int g) {
            for (int i = g + 1; i < guardCount; i++) {
                guardSets[i - 1] = guardSets[i];
                guardLeasts[i - 1] = guardLeasts[i];
            }
            guardCount--;
        }

        boolean isGuarded(int set) {
            for (int g = 0; g < guardCount; g++) {
                if (guardSets[g] == set) {
                    return true;
                }
            }
            return false;
        }

        long after(long marking, int t) {
            return marking - takes[t] + gives[t];
        }

        /** The number of the condition for going that fails first, 0 if none does; guard number without is left out. */
        int hindrance(long marking, int t, int without) {
            if (!Marks.covers(marking, takes[t])) {
                return 1;
            }
            long next = after(marking, t);
            if (Marks.overflows(next)) {
                return 2;
            }
            for (int g = 0; g < guardCount; g++) {
                if (g != without && bars(g, marking, next)) {
                    return 3;
                }
            }
            return 0;
        }

        private boolean bars(int g, long marking, long next) {
            int tokens = Marks.sumIn(next, guardSets[g]);
            return tokens < guardLeasts[g] && tokens < Marks.sumIn(marking, guardSets[g]);
        }

        int barredBy(int g) {
            int barred = 0;
            for (int t = 0; t < steps; t++) {
                int reason = hindrance(present, t, NONE);
                boolean mayGo = reason == 0 || reason == 3;
                if (mayGo && bars(g, present, after(present, t))) {
                    barred |= 1 << t;
                }
            }
            return barred;
        }
    }

    /** A list of markings, with the marking to which each step leads from each of them. */
    private static final class Search {
        /** One cost outweighs all steps of a way: no cheapest way has as many as this. */
        static final int PER_COST = 1000;

        private static final int OUTSIDE = -2;
        private static final int SLOTS = 512;
        private static final int SLOT_SHIFT = 55;
        private static final long SCATTER = 0x9E3779B97F4A7C15L;

        final long[] markings = new long[MARKINGS];
        final int[] depths = new int[MARKINGS];
        final int[] ways = new int[MARKINGS];
        int count = 0;
        private final int[] nexts = new int[MARKINGS * STEPS];
        private final int[] slots = new int[SLOTS];
        private boolean measured = false;

        /** Leaves out guard number without, and stops early once goal is in the list; NONE for either means none. */
        void spread(State net, long first, int without, long goal) {
            Arrays.fill(slots, NONE);
            count = 0;
            measured = false;
            enter(first, 0);
            boolean reached = first == goal;
            for (int i = 0; i < MARKINGS && i < count && !reached; i++) {
                for (int t = 0; t < net.steps; t++) {
                    boolean able = net.hindrance(markings[i], t, without) == 0;
                    nexts[i * STEPS + t] = able ? enter(net.after(markings[i], t), depths[i] + 1) : NONE;
                }
                reached = goal != NONE && indexOf(goal) != NONE;
            }
        }

        /** The index of this marking in the list, at the end of which it is put if need be; OUTSIDE if that is full. */
        private int enter(long marking, int depth) {
            int slot = slotOf(marking);
            if (slots[slot] != NONE) {
                return slots[slot];
            }
            if (count >= MARKINGS) {
                return OUTSIDE;
            }
            markings[count] = marking;
            depths[count] = depth;
            slots[slot] = count;
            count++;
            return count - 1;
        }

        /** The slot of this marking, or the free one where it belongs; more than half of all slots stay free. */
        private int slotOf(long marking) {
            int slot = (int) ((marking * SCATTER) >>> SLOT_SHIFT);
            for (int n = 0; n < SLOTS && slots[slot] != NONE && markings[slots[slot]] != marking; n++) {
                slot = (slot + 1) % SLOTS;
            }
            return slot;
        }

        int indexOf(long marking) {
            return slots[slotOf(marking)];
        }

        int mostIn(int set) {
            int most = 0;
            for (int i = 0; i < count; i++) {
                most = Math.max(most, Marks.sumIn(markings[i], set));
            }
            return most;
        }

        int leastIn(int set) {
            int least = Marks.sumIn(markings[0], set);
            for (int i = 1; i < count; i++) {
                least = Math.min(least, Marks.sumIn(markings[i], set));
            }
            return least;
        }

        int ableSteps(int i, int steps) {
            int able = 0;
            for (int t = 0; t < steps; t++) {
                if (nexts[i * STEPS + t] != NONE) {
                    able |= 1 << t;
                }
            }
            return able;
        }

        int liveSteps(int steps) {
            int live = 0;
            for (int i = 0; i < count; i++) {
                live |= ableSteps(i, steps);
            }
            return live;
        }

        int deadlocks(int steps) {
            int dead = 0;
            for (int i = 0; i < count; i++) {
                if (ableSteps(i, steps) == 0) {
                    dead++;
                }
            }
            return dead;
        }

        boolean isComplete(int steps) {
            for (int i = 0; i < count; i++) {
                for (int t = 0; t < steps; t++) {
                    if (nexts[i * STEPS + t] == OUTSIDE) {
                        return false;
                    }
                }
            }
            return true;
        }

        /** Finds the cheapest way from each marking to that with the index goal; it stays NONE where there is none. */
        void measure(State net, int goal) {
            if (measured) {
                return;
            }
            measured = true;
            Arrays.fill(ways, NONE);
            if (goal == NONE) {
                return;
            }
            ways[goal] = 0;
            boolean better = true;
            for (int round = 0; round < MARKINGS && better; round++) {
                better = false;
                // late markings mostly lead the way back, so they come first
                for (int i = count - 1; i >= 0; i--) {
                    better |= shorten(net, i);
                }
            }
        }

        private boolean shorten(State net, int i) {
            boolean better = false;
            for (int t = 0; t < net.steps; t++) {
                int way = wayOver(net, i, t);
                if (way != NONE && (ways[i] == NONE || way < ways[i])) {
                    ways[i] = way;
                    better = true;
                }
            }
            return better;
        }

        private int wayOver(State net, int i, int t) {
            int next = nexts[i * STEPS + t];
            if (next < 0 || ways[next] == NONE) {
                return NONE;
            }
            return ways[next] + net.costs[t] * PER_COST + 1;
        }

        int wayless() {
            int without = 0;
            for (int i = 0; i < count; i++) {
                if (ways[i] == NONE) {
                    without++;
                }
            }
            return without;
        }

        int firstStep(State net) {
            if (ways[0] == 0) {
                return NONE;
            }
            for (int t = 0; t < net.steps; t++) {
                if (wayOver(net, 0, t) == ways[0]) {
                    return t;
                }
            }
            return NONE;
        }
    }

    /**
     * The minimal invariants: the extreme rays of the cone of weights that are 0 or greater and balance each step.
     * It starts with the unit weights and takes in one step after the other. Such a cone in ten dimensions
     * never has more than 50 extreme rays (upper bound theorem), and no weight exceeds 2^20 (Hadamard).
     */
    private static final class Invariants {
        private static final int ROWS = 64;
        private static final int DIVISIONS = 100;

        int count = 0;
        int[] supports = new int[ROWS];
        private long[][] weights = new long[ROWS][PLACES];
        private int newCount = 0;
        private int[] newSupports = new int[ROWS];
        private long[][] newWeights = new long[ROWS][PLACES];
        private final long[] surplus = new long[ROWS];

        int weight(int k, int p) {
            return (int) weights[k][p];
        }

        int weighted(int k, long marking) {
            long total = 0L;
            for (int p = 0; p < PLACES; p++) {
                total += weights[k][p] * Marks.tokens(marking, p);
            }
            return (int) total;
        }

        int bound(int p, long starts) {
            int best = NONE;
            for (int k = 0; k < count; k++) {
                int weight = weight(k, p);
                if (weight > 0) {
                    int most = weighted(k, starts) / weight;
                    best = best == NONE ? most : Math.min(best, most);
                }
            }
            return best;
        }

        void findAll(State net) {
            count = net.places;
            for (int k = 0; k < count; k++) {
                Arrays.fill(weights[k], 0L);
                weights[k][k] = 1L;
                supports[k] = 1 << k;
            }
            for (int t = 0; t < net.steps; t++) {
                balance(net.takes[t], net.gives[t]);
            }
            orderBySupport();
        }

        private void balance(long taken, long given) {
            newCount = 0;
            for (int k = 0; k < count; k++) {
                surplus[k] = (long) weighted(k, given) - weighted(k, taken);
                if (surplus[k] == 0L) {
                    addCombined(k, 1L, k, 0L);
                }
            }
            for (int a = 0; a < count; a++) {
                for (int b = 0; b < count; b++) {
                    if (surplus[a] > 0L && surplus[b] < 0L && areAdjacent(a, b)) {
                        addCombined(a, -surplus[b], b, surplus[a]);
                    }
                }
            }
            exchange();
        }

        /** Only neighbours combine to an extreme ray: no third support lies within both of theirs together. */
        private boolean areAdjacent(int a, int b) {
            int both = supports[a] | supports[b];
            for (int k = 0; k < count; k++) {
                if (k != a && k != b && (supports[k] & ~both) == 0) {
                    return false;
                }
            }
            return true;
        }

        private void addCombined(int a, long timesA, int b, long timesB) {
            if (newCount >= ROWS) {
                return;
            }
            long[] row = newWeights[newCount];
            long divisor = 0L;
            for (int p = 0; p < PLACES; p++) {
                row[p] = timesA * weights[a][p] + timesB * weights[b][p];
                divisor = commonDivisor(divisor, row[p]);
            }
            for (int p = 0; p < PLACES && divisor > 1L; p++) {
                row[p] /= divisor;
            }
            newSupports[newCount] = supports[a] | supports[b];
            newCount++;
        }

        private static long commonDivisor(long a, long b) {
            long divisor = a;
            long rest = b;
            for (int n = 0; n < DIVISIONS && rest != 0L; n++) {
                long next = divisor % rest;
                divisor = rest;
                rest = next;
            }
            return divisor;
        }

        private void exchange() {
            int[] oldSupports = supports;
            long[][] oldWeights = weights;
            supports = newSupports;
            weights = newWeights;
            count = newCount;
            newSupports = oldSupports;
            newWeights = oldWeights;
        }

        private void orderBySupport() {
            for (int i = 1; i < count; i++) {
                for (int k = i; k > 0 && supports[k - 1] > supports[k]; k--) {
                    int support = supports[k];
                    supports[k] = supports[k - 1];
                    supports[k - 1] = support;
                    long[] row = weights[k];
                    weights[k] = weights[k - 1];
                    weights[k - 1] = row;
                }
            }
        }
    }

    /** The minimal siphons, and what makes a set of places a siphon or a trap. */
    private static final class Siphons {
        /** So many sets of ten places at most, none of which is a subset of another (Sperner). */
        private static final int SETS = 252;

        int count = 0;
        final int[] sets = new int[SETS];
        private final int[] unordered = new int[SETS];
        private int steps = 0;
        private final int[] inputs = new int[STEPS];
        private final int[] outputs = new int[STEPS];

        void findAll(State net) {
            steps = net.steps;
            for (int t = 0; t < steps; t++) {
                inputs[t] = Marks.placesOf(net.takes[t]);
                outputs[t] = Marks.placesOf(net.gives[t]);
            }
            int most = net.allPlaces();
            count = 0;
            // a subset is a smaller number, so it has been looked at before
            for (int set = 1; set <= most; set++) {
                if (isSiphon(set) && !holdsFormer(set) && count < SETS) {
                    unordered[count] = set;
                    count++;
                }
            }
            orderBySize();
        }

        private boolean holdsFormer(int set) {
            for (int k = 0; k < count; k++) {
                if ((unordered[k] & ~set) == 0) {
                    return true;
                }
            }
            return false;
        }

        private void orderBySize() {
            int placed = 0;
            for (int size = 1; size <= PLACES; size++) {
                for (int k = 0; k < count; k++) {
                    if (Integer.bitCount(unordered[k]) == size) {
                        sets[placed] = unordered[k];
                        placed++;
                    }
                }
            }
        }

        boolean isSiphon(int set) {
            for (int t = 0; t < steps; t++) {
                if ((outputs[t] & set) != 0 && (inputs[t] & set) == 0) {
                    return false;
                }
            }
            return true;
        }

        boolean isTrap(int set) {
            return heldPart(set) == set;
        }

        /** Each round but the last takes a place out. */
        int heldPart(int set) {
            int held = set;
            for (int round = 0; round < PLACES; round++) {
                for (int t = 0; t < steps; t++) {
                    if ((inputs[t] & held) != 0 && (outputs[t] & held) == 0) {
                        held &= ~inputs[t];
                    }
                }
            }
            return held;
        }
    }

    /** The text, and the carrying out of its orders up to the first byte that cannot stand at its place. */
    private static final class Reader {
        private static final int END = -1;

        final int[] text = new int[BYTES];
        int size = 0;
        int fault = NONE;
        private int at = 0;
        private final int[] machines = new int[MACHINES];

        /** Returns the number of orders; where fault is set, net is left half done. */
        int carryOut(State net) {
            at = 0;
            fault = NONE;
            int orders = 0;
            skipSpaces();
            while (orders < BYTES && fault == NONE && (orders == 0 || at < size)) {
                readOrder(net);
                skipSpaces();
                orders++;
            }
            return orders;
        }

        private void readOrder(State net) {
            int letter = next();
            if (letter == 'p' && net.places < PLACES) {
                readPlace(net);
            } else if (letter == 't' && net.steps < STEPS) {
                readStep(net);
            } else if (letter == 'l') {
                readLine(net);
            } else if (letter == 'g' && net.guardCount < GUARDS) {
                readGuard(net);
            } else {
                fail(at);
            }
        }

        private void readPlace(State net) {
            at++;
            skipSpaces();
            int first = at;
            int v = readDigit(0, 9);
            if (isDigit(next())) {
                v = 10 * v + readDigit(0, 9);
            }
            if (v > TOKENS || isDigit(next())) {
                fail(first);
            }
            expect(';');
            if (fault == NONE) {
                net.addPlace(v);
                net.renewRun();
            }
        }

        private void readStep(State net) {
            at++;
            skipSpaces();
            int c = readDigit(0, COST);
            long taken = readArcs(net.places);
            expect('>');
            long given = readArcs(net.places);
            expect(';');
            if (fault == NONE) {
                net.addStep(c, taken, given);
                net.renewRun();
            }
        }

        private void readLine(State net) {
            int letterAt = at;
            at++;
            skipSpaces();
            int pallets = readDigit(1, PALLETS);
            int n = 0;
            skipSpaces();
            while (n < MACHINES && fault == NONE && (n == 0 || isDigit(next()))) {
                machines[n] = readDigit(0, net.places - 1);
                n++;
                skipSpaces();
            }
            expect(';');
            if (!net.hasRoomForLine(n)) {
                fail(letterAt);
            }
            if (fault == NONE) {
                net.addLine(pallets, machines, n);
                net.renewRun();
            }
        }

        private void readGuard(State net) {
            int letterAt = at;
            at++;
            skipSpaces();
            int set = 1 << readDigit(0, net.places - 1);
            skipSpaces();
            for (int n = 0; n < BYTES && fault == NONE && isDigit(next()); n++) {
                set |= 1 << readDigit(0, net.places - 1);
                skipSpaces();
            }
            expect('/');
            skipSpaces();
            int least = readDigit(1, LEAST);
            expect(';');
            if (Marks.sumIn(net.homeMarking(), set) < least) {
                fail(letterAt);
            }
            if (fault == NONE) {
                net.addGuard(set, least);
            }
        }

        private long readArcs(int places) {
            long arcs = 0L;
            skipSpaces();
            for (int n = 0; n < BYTES && fault == NONE && isDigit(next()); n++) {
                int digitAt = at;
                int p = readDigit(0, places - 1);
                if (Marks.tokens(arcs, p) >= ARC) {
                    fail(digitAt);
                }
                arcs += Marks.one(p);
                skipSpaces();
            }
            return arcs;
        }

        /** Answers 0 where it fails, which callers can use as a place or a number without harm. */
        private int readDigit(int least, int most) {
            int digit = next() - '0';
            if (!within(digit, least, most)) {
                fail(at);
                return 0;
            }
            at++;
            return digit;
        }

        private void expect(int sign) {
            skipSpaces();
            if (next() == sign) {
                at++;
            } else {
                fail(at);
            }
        }

        private void skipSpaces() {
            while (at < size && text[at] == ' ') {
                at++;
            }
        }

        private int next() {
            return at < size ? text[at] : END;
        }

        private static boolean isDigit(int sign) {
            return within(sign, '0', '9');
        }

        /** The first fault counts: what comes after it is not the text that was meant. */
        private void fail(int position) {
            if (fault == NONE) {
                fault = position;
            }
        }
    }
}
