import java.math.BigInteger;
import java.util.ArrayList;
import java.util.Arrays;
import java.util.Comparator;
import java.util.HashMap;
import java.util.HashSet;
import java.util.List;
import java.util.Map;
import java.util.PriorityQueue;
import java.util.Set;

/**
 * The document once more, by its definitions, slowly and with the Java library: what PalletNets answers is held
 * against this. It shares no code and, where there is a choice, no algorithm with PalletNets.
 */
final class Model {
    static final int NONE = -1, BAD = -2, NO = -3, FULL = -4;

    static final class Guard {
        final int set;
        final int least;

        Guard(int set, int least) {
            this.set = set;
            this.least = least;
        }
    }

    static final class Step {
        int cost;
        final int[] takes = new int[10];
        final int[] gives = new int[10];

        Step(int cost) {
            this.cost = cost;
        }

        Step copy() {
            Step s = new Step(cost);
            System.arraycopy(takes, 0, s.takes, 0, 10);
            System.arraycopy(gives, 0, s.gives, 0, 10);
            return s;
        }
    }

    static final class Net {
        final List<Integer> starts = new ArrayList<>();
        List<Integer> lost = new ArrayList<>();
        List<Integer> present = new ArrayList<>();
        final List<Step> steps = new ArrayList<>();
        final List<Guard> guards = new ArrayList<>();
        boolean keeper;

        Net copy() {
            Net n = new Net();
            n.starts.addAll(starts);
            n.lost.addAll(lost);
            n.present.addAll(present);
            for (Step s : steps) {
                n.steps.add(s.copy());
            }
            n.guards.addAll(guards);
            n.keeper = keeper;
            return n;
        }

        void renew() {
            guards.clear();
            lost = new ArrayList<>();
            for (int i = 0; i < starts.size(); i++) {
                lost.add(0);
            }
            present = new ArrayList<>(starts);
        }

        List<Integer> home() {
            List<Integer> h = new ArrayList<>();
            for (int p = 0; p < starts.size(); p++) {
                h.add(starts.get(p) - lost.get(p));
            }
            return h;
        }

        void line(int k, List<Integer> m) {
            int n = m.size();
            int store = starts.size();
            starts.add(k);
            int[] q = new int[n + 1];
            for (int i = 1; i <= n; i++) {
                q[i] = starts.size();
                starts.add(0);
            }
            Step first = new Step(1);
            first.takes[store]++;
            first.takes[m.get(0)]++;
            first.gives[q[1]]++;
            steps.add(first);
            for (int i = 2; i <= n; i++) {
                Step s = new Step(1);
                s.takes[q[i - 1]]++;
                s.takes[m.get(i - 1)]++;
                s.gives[q[i]]++;
                s.gives[m.get(i - 2)]++;
                steps.add(s);
            }
            Step last = new Step(1);
            last.takes[q[n]]++;
            last.gives[store]++;
            last.gives[m.get(n - 1)]++;
            steps.add(last);
        }

        List<Integer> after(List<Integer> m, int t) {
            List<Integer> next = new ArrayList<>();
            for (int p = 0; p < m.size(); p++) {
                next.add(m.get(p) - steps.get(t).takes[p] + steps.get(t).gives[p]);
            }
            return next;
        }

        boolean bars(Guard g, List<Integer> m, int t) {
            int then = sum(after(m, t), g.set);
            return then < g.least && then < sum(m, g.set);
        }

        int why(List<Integer> m, int t) {
            for (int p = 0; p < m.size(); p++) {
                if (m.get(p) < steps.get(t).takes[p]) {
                    return 1;
                }
            }
            for (int v : after(m, t)) {
                if (v > 15) {
                    return 2;
                }
            }
            for (Guard g : guards) {
                if (bars(g, m, t)) {
                    return 3;
                }
            }
            return 0;
        }

        List<List<Integer>> search(List<Integer> from) {
            List<List<Integer>> list = new ArrayList<>();
            Set<List<Integer>> seen = new HashSet<>();
            list.add(from);
            seen.add(from);
            for (int i = 0; i < list.size(); i++) {
                for (int t = 0; t < steps.size(); t++) {
                    if (why(list.get(i), t) == 0 && list.size() < 200) {
                        List<Integer> next = after(list.get(i), t);
                        if (seen.add(next)) {
                            list.add(next);
                        }
                    }
                }
            }
            return list;
        }

        int allowed(int t) {
            int why = why(present, t);
            if (why == 0 && keeper && !search(after(present, t)).contains(home())) {
                return 4;
            }
            return why;
        }

        boolean siphon(int set) {
            for (Step s : steps) {
                if (touches(s.gives, set) && !touches(s.takes, set)) {
                    return false;
                }
            }
            return set != 0;
        }

        boolean trap(int set) {
            for (Step s : steps) {
                if (touches(s.takes, set) && !touches(s.gives, set)) {
                    return false;
                }
            }
            return true;
        }

        int held(int set) {
            int greatest = 0;
            for (int s = 0; s <= set; s++) {
                if ((s & ~set) == 0 && trap(s)) {
                    greatest |= s;
                }
            }
            return greatest;
        }

        boolean safe(int set) {
            return sum(starts, held(set)) != 0;
        }

        private static final Map<String, List<Integer>> KNOWN_SIPHONS = new HashMap<>();
        private static final Map<String, List<int[]>> KNOWN_INVARIANTS = new HashMap<>();

        /** The definitions are dear to follow, and runs ask again and again for the same net. */
        private String arcs() {
            StringBuilder key = new StringBuilder().append(starts.size());
            for (Step s : steps) {
                key.append(Arrays.toString(s.takes)).append(Arrays.toString(s.gives));
            }
            return key.toString();
        }

        List<Integer> siphons() {
            return KNOWN_SIPHONS.computeIfAbsent(arcs(), key -> findSiphons());
        }

        List<int[]> invariants() {
            return KNOWN_INVARIANTS.computeIfAbsent(arcs(), key -> findInvariants());
        }

        private List<Integer> findSiphons() {
            List<Integer> minimal = new ArrayList<>();
            for (int set = 1; set < 1 << starts.size(); set++) {
                if (siphon(set)) {
                    boolean least = true;
                    for (int s = (set - 1) & set; s != 0 && least; s = (s - 1) & set) {
                        least = !siphon(s);
                    }
                    if (least) {
                        minimal.add(set);
                    }
                }
            }
            minimal.sort(Comparator.<Integer>comparingInt(Integer::bitCount).thenComparing(s -> s));
            return minimal;
        }

        /** Each minimal invariant as its weights; by supports, the small ones first. */
        private List<int[]> findInvariants() {
            List<Integer> sets = new ArrayList<>();
            for (int set = 1; set < 1 << starts.size(); set++) {
                sets.add(set);
            }
            sets.sort(Comparator.comparingInt(Integer::bitCount));
            Map<Integer, int[]> found = new HashMap<>();
            for (int set : sets) {
                boolean free = true;
                for (int s : found.keySet()) {
                    free &= (s & ~set) != 0;
                }
                int[] weights = free ? solve(set) : null;
                if (weights != null) {
                    found.put(set, weights);
                }
            }
            List<Integer> supports = new ArrayList<>(found.keySet());
            supports.sort(null);
            List<int[]> list = new ArrayList<>();
            for (int s : supports) {
                list.add(found.get(s));
            }
            return list;
        }

        /** The weights with exactly this support, if there is but one line of solutions and it is positive. */
        private int[] solve(int set) {
            List<Integer> cols = new ArrayList<>();
            for (int p = 0; p < starts.size(); p++) {
                if ((set >> p & 1) != 0) {
                    cols.add(p);
                }
            }
            int n = cols.size();
            BigInteger[][] a = new BigInteger[steps.size()][n];
            for (int t = 0; t < steps.size(); t++) {
                for (int j = 0; j < n; j++) {
                    Step s = steps.get(t);
                    a[t][j] = BigInteger.valueOf(s.gives[cols.get(j)] - s.takes[cols.get(j)]);
                }
            }
            int[] pivotOf = new int[n];
            Arrays.fill(pivotOf, -1);
            int rank = 0;
            for (int j = 0; j < n; j++) {
                int pivot = rank;
                while (pivot < a.length && a[pivot][j].signum() == 0) {
                    pivot++;
                }
                if (pivot == a.length) {
                    continue;
                }
                BigInteger[] row = a[pivot];
                a[pivot] = a[rank];
                a[rank] = row;
                for (int i = 0; i < a.length; i++) {
                    if (i != rank && a[i][j].signum() != 0) {
                        BigInteger f = a[i][j];
                        for (int c = 0; c < n; c++) {
                            a[i][c] = a[i][c].multiply(row[j]).subtract(row[c].multiply(f));
                        }
                    }
                }
                pivotOf[j] = rank;
                rank++;
            }
            if (rank != n - 1) {
                return null;
            }
            int freeCol = 0;
            BigInteger scale = BigInteger.ONE;
            for (int j = 0; j < n; j++) {
                if (pivotOf[j] < 0) {
                    freeCol = j;
                } else {
                    scale = scale.multiply(a[pivotOf[j]][j].abs());
                }
            }
            BigInteger[] y = new BigInteger[n];
            BigInteger gcd = BigInteger.ZERO;
            for (int j = 0; j < n; j++) {
                y[j] = j == freeCol ? scale : a[pivotOf[j]][freeCol].negate().multiply(scale).divide(a[pivotOf[j]][j]);
                if (y[j].signum() <= 0) {
                    return null;
                }
                gcd = gcd.gcd(y[j]);
            }
            int[] weights = new int[10];
            for (int j = 0; j < n; j++) {
                weights[cols.get(j)] = y[j].divide(gcd).intValueExact();
            }
            return weights;
        }
    }

    Net net = new Net();
    final List<Net> kept = new ArrayList<>();
    final StringBuilder text = new StringBuilder();
    final int[] counts = new int[3];

    static boolean touches(int[] arcs, int set) {
        for (int p = 0; p < 10; p++) {
            if (arcs[p] > 0 && (set >> p & 1) != 0) {
                return true;
            }
        }
        return false;
    }

    static int sum(List<Integer> m, int set) {
        int total = 0;
        for (int p = 0; p < m.size(); p++) {
            total += (set >> p & 1) != 0 ? m.get(p) : 0;
        }
        return total;
    }

    static int weighted(int[] weights, List<Integer> m) {
        int total = 0;
        for (int p = 0; p < m.size(); p++) {
            total += weights[p] * m.get(p);
        }
        return total;
    }

    private int out(int code) {
        counts[-2 - code]++;
        return code;
    }

    private static boolean in(int v, int a, int b) {
        return a <= v && v <= b;
    }

    private boolean placeNo(int p) {
        return in(p, 0, net.starts.size() - 1);
    }

    private boolean stepNo(int t) {
        return in(t, 0, net.steps.size() - 1);
    }

    private boolean setOk(int set) {
        return in(set, 1, (1 << net.starts.size()) - 1);
    }

    private void change() {
        kept.add(net.copy());
        if (kept.size() > 5) {
            kept.remove(0);
        }
    }

    int place(int v) {
        if (!in(v, 0, 15)) return out(BAD);
        if (net.starts.size() == 10) return out(FULL);
        change();
        net.starts.add(v);
        net.renew();
        return net.starts.size() - 1;
    }

    int step(int c) {
        if (!in(c, 0, 9)) return out(BAD);
        if (net.steps.size() == 8) return out(FULL);
        change();
        net.steps.add(new Step(c));
        net.renew();
        return net.steps.size() - 1;
    }

    int arc(int t, int p, int way, int w) {
        if (!stepNo(t) || !placeNo(p) || !in(way, 0, 1) || !in(w, 0, 2)) return out(BAD);
        change();
        Step s = net.steps.get(t);
        int old = way == 0 ? s.takes[p] : s.gives[p];
        if (way == 0) s.takes[p] = w;
        else s.gives[p] = w;
        net.renew();
        return old;
    }

    int start(int p, int v) {
        if (!placeNo(p) || !in(v, 0, 15)) return out(BAD);
        change();
        int old = net.starts.set(p, v);
        net.renew();
        return old;
    }

    int cost(int t, int c) {
        if (!stepNo(t) || !in(c, 0, 9)) return out(BAD);
        change();
        int old = net.steps.get(t).cost;
        net.steps.get(t).cost = c;
        return old;
    }

    int line(int k, int a, int b) {
        if (!in(k, 1, 9) || !placeNo(a) || !placeNo(b)) return out(BAD);
        if (net.starts.size() + 3 > 10 || net.steps.size() + 3 > 8) return out(FULL);
        change();
        int store = net.starts.size();
        net.line(k, List.of(a, b));
        net.renew();
        return store;
    }

    private BigInteger s;

    private int drawBelow(int d) {
        s = s.multiply(BigInteger.valueOf(1103515245)).add(BigInteger.valueOf(12345)).mod(BigInteger.valueOf(2147483648L));
        return s.divide(BigInteger.valueOf(65536)).mod(BigInteger.valueOf(d)).intValueExact();
    }

    int draw(int seed, int n, int m) {
        if (!in(seed, 0, 999999) || !in(n, 1, 10) || !in(m, 1, 8)) return out(BAD);
        change();
        net.starts.clear();
        net.steps.clear();
        s = BigInteger.valueOf(seed);
        for (int p = 0; p < n; p++) {
            net.starts.add(drawBelow(3));
        }
        int[] takes = {1, 2, 0, 0, 1, 0, 0, 0, 0};
        int[] gives = {0, 0, 1, 2, 1, 0, 0, 0, 0};
        for (int t = 0; t < m; t++) {
            Step step = new Step(drawBelow(10));
            for (int p = 0; p < n; p++) {
                int kind = drawBelow(9);
                step.takes[p] = takes[kind];
                step.gives[p] = gives[kind];
            }
            net.steps.add(step);
        }
        net.renew();
        return net.search(net.home()).size();
    }

    int anew() {
        change();
        int old = net.starts.size();
        net.starts.clear();
        net.steps.clear();
        net.keeper = false;
        net.renew();
        return old;
    }

    int of(int p, int what) {
        if (!placeNo(p) || !in(what, 0, 5)) return out(BAD);
        if (what == 0) return net.starts.get(p);
        if (what == 1) return net.present.get(p);
        if (what == 2) return net.lost.get(p);
        if (what == 3) {
            int best = NONE;
            for (int[] y : net.invariants()) {
                if (y[p] > 0) {
                    int v = weighted(y, net.starts) / y[p];
                    best = best == NONE || v < best ? v : best;
                }
            }
            return best;
        }
        List<Integer> seen = new ArrayList<>();
        for (List<Integer> m : net.search(net.home())) {
            seen.add(m.get(p));
        }
        seen.sort(null);
        return what == 4 ? seen.get(seen.size() - 1) : seen.get(0);
    }

    int arcOf(int t, int p, int way) {
        if (!stepNo(t) || !placeNo(p) || !in(way, 0, 1)) return out(BAD);
        return way == 0 ? net.steps.get(t).takes[p] : net.steps.get(t).gives[p];
    }

    int stepOf(int t, int what) {
        if (!stepNo(t) || !in(what, 0, 2)) return out(BAD);
        Step step = net.steps.get(t);
        return what == 0 ? step.cost : Arrays.stream(what == 1 ? step.takes : step.gives).sum();
    }

    int can(int t) {
        return stepNo(t) ? net.allowed(t) : out(BAD);
    }

    int goes(int t) {
        if (!stepNo(t)) return out(BAD);
        if (net.allowed(t) != 0) return out(NO);
        change();
        net.present = net.after(net.present, t);
        int able = 0;
        for (int u = 0; u < net.steps.size(); u++) {
            able += net.why(net.present, u) == 0 ? 1 : 0;
        }
        return able;
    }

    int runs(int n, int by) {
        if (!in(n, 1, 8) || !in(by, 0, 2)) return out(BAD);
        change();
        int gone = 0;
        while (gone < n) {
            List<Integer> allowed = new ArrayList<>();
            for (int t = 0; t < net.steps.size(); t++) {
                if (net.allowed(t) == 0) {
                    allowed.add(t);
                }
            }
            if (allowed.isEmpty()) {
                break;
            }
            if (by == 1) {
                allowed.sort(Comparator.comparingInt(t -> net.steps.get(t).cost));
            }
            int t = by == 2 ? allowed.get(allowed.size() - 1) : allowed.get(0);
            net.present = net.after(net.present, t);
            gone++;
        }
        return gone;
    }

    int restarts() {
        change();
        net.present = net.home();
        return sum(net.present, 1023);
    }

    int loses(int p) {
        if (!placeNo(p)) return out(BAD);
        if (net.present.get(p) == 0 || net.lost.get(p).equals(net.starts.get(p))) return out(NO);
        change();
        net.lost.set(p, net.lost.get(p) + 1);
        net.present.set(p, net.present.get(p) - 1);
        return net.present.get(p);
    }

    int returns(int p) {
        if (!placeNo(p)) return out(BAD);
        if (net.lost.get(p) == 0 || net.present.get(p) == 15) return out(NO);
        change();
        net.lost.set(p, net.lost.get(p) - 1);
        net.present.set(p, net.present.get(p) + 1);
        return net.lost.get(p);
    }

    int keeper(int v) {
        if (!in(v, 0, 1)) return out(BAD);
        change();
        int old = net.keeper ? 1 : 0;
        net.keeper = v == 1;
        return old;
    }

    int sums() {
        return net.invariants().size();
    }

    int sum(int k, int p) {
        if (k < 0 || !placeNo(p)) return out(BAD);
        List<int[]> all = net.invariants();
        return k < all.size() ? all.get(k)[p] : NONE;
    }

    int value(int k, int what) {
        if (k < 0 || !in(what, 0, 3)) return out(BAD);
        List<int[]> all = net.invariants();
        if (k >= all.size()) return NONE;
        int[] y = all.get(k);
        if (what == 3) {
            int support = 0;
            for (int p = 0; p < 10; p++) {
                support |= y[p] > 0 ? 1 << p : 0;
            }
            return support;
        }
        return weighted(y, what == 0 ? net.starts : what == 1 ? net.present : net.home());
    }

    int stucks() {
        return net.siphons().size();
    }

    int stuck(int k, int what) {
        if (k < 0 || !in(what, 0, 5)) return out(BAD);
        List<Integer> all = net.siphons();
        if (k >= all.size()) return NONE;
        int set = all.get(k);
        if (what == 0) return set;
        if (what == 1) return sum(net.starts, set);
        if (what == 2) return sum(net.present, set);
        if (what == 3) return net.held(set);
        if (what == 4) return net.safe(set) ? 1 : 0;
        return fewest(net, set);
    }

    private static int fewest(Net n, int set) {
        int least = Integer.MAX_VALUE;
        for (List<Integer> m : n.search(n.home())) {
            least = Math.min(least, sum(m, set));
        }
        return least;
    }

    int sort(int set) {
        if (!setOk(set)) return out(BAD);
        return (net.siphon(set) ? 1 : 0) + (net.trap(set) ? 2 : 0);
    }

    int guard(int set, int least) {
        if (!setOk(set) || !in(least, 1, 9)) return out(BAD);
        if (sum(net.home(), set) < least) return out(NO);
        if (net.guards.size() == 5) return out(FULL);
        change();
        net.guards.add(new Guard(set, least));
        return net.guards.size() - 1;
    }

    int guards() {
        change();
        int added = 0;
        for (int set : net.siphons()) {
            boolean guarded = false;
            for (Guard g : net.guards) {
                guarded |= g.set == set;
            }
            if (!net.safe(set) && sum(net.home(), set) >= 1 && !guarded && net.guards.size() < 5) {
                net.guards.add(new Guard(set, 1));
                added++;
            }
        }
        return added;
    }

    int drop(int g) {
        if (!in(g, 0, net.guards.size() - 1)) return out(BAD);
        change();
        net.guards.remove(g);
        return net.guards.size();
    }

    int guardOf(int g, int what) {
        if (!in(g, 0, net.guards.size() - 1) || !in(what, 0, 4)) return out(BAD);
        Guard guard = net.guards.get(g);
        if (what == 0) return guard.set;
        if (what == 1) return guard.least;
        if (what == 2) return sum(net.present, guard.set);
        if (what == 3) {
            int barred = 0;
            for (int t = 0; t < net.steps.size(); t++) {
                int why = net.why(net.present, t);
                if (why != 1 && why != 2 && net.bars(guard, net.present, t)) {
                    barred |= 1 << t;
                }
            }
            return barred;
        }
        Net without = net.copy();
        without.guards.remove(g);
        return fewest(without, guard.set) < guard.least ? 0 : 1;
    }

    /** Those of the list from which a way within the list leads to its marking goal. */
    private Set<List<Integer>> leading(List<List<Integer>> list, List<Integer> goal) {
        Map<List<Integer>, List<List<Integer>>> before = new HashMap<>();
        for (List<Integer> m : list) {
            for (int t = 0; t < net.steps.size(); t++) {
                if (net.why(m, t) == 0) {
                    before.computeIfAbsent(net.after(m, t), x -> new ArrayList<>()).add(m);
                }
            }
        }
        Set<List<Integer>> reached = new HashSet<>();
        List<List<Integer>> open = new ArrayList<>();
        open.add(goal);
        reached.add(goal);
        while (!open.isEmpty()) {
            for (List<Integer> m : before.getOrDefault(open.remove(open.size() - 1), List.of())) {
                if (reached.add(m)) {
                    open.add(m);
                }
            }
        }
        return reached;
    }

    private int ableIn(List<Integer> m) {
        int able = 0;
        for (int t = 0; t < net.steps.size(); t++) {
            able |= net.why(m, t) == 0 ? 1 << t : 0;
        }
        return able;
    }

    int all(int what) {
        if (!in(what, 0, 5)) return out(BAD);
        List<List<Integer>> list = net.search(net.home());
        Set<List<Integer>> members = new HashSet<>(list);
        if (what == 0) return list.size();
        if (what == 3) return list.size() - leading(list, net.home()).size();
        int answer = what == 1 ? 1 : 0;
        for (List<Integer> m : list) {
            int able = ableIn(m);
            for (int t = 0; t < net.steps.size() && what == 1; t++) {
                if ((able >> t & 1) != 0 && !members.contains(net.after(m, t))) {
                    answer = 0;
                }
            }
            if (what == 2 && able == 0) answer++;
            if (what == 4) answer |= able;
            if (what == 5) answer = Math.max(answer, sum(m, 1023));
        }
        return answer;
    }

    long found(int m, int what) {
        if (m < 0 || !in(what, 0, 3)) return out(BAD);
        List<List<Integer>> list = net.search(net.home());
        if (m >= list.size()) return NONE;
        List<Integer> marking = list.get(m);
        if (what == 0) {
            StringBuilder hex = new StringBuilder("0");
            for (int p = marking.size() - 1; p >= 0; p--) {
                hex.append(Integer.toHexString(marking.get(p)));
            }
            return Long.parseLong(hex.toString(), 16);
        }
        if (what == 1) return layer(list, marking);
        if (what == 2) return leading(list, net.home()).contains(marking) ? 1 : 0;
        return ableIn(marking);
    }

    private int layer(List<List<Integer>> list, List<Integer> goal) {
        Set<List<Integer>> members = new HashSet<>(list);
        Set<List<Integer>> reached = new HashSet<>();
        reached.add(list.get(0));
        for (int n = 0; n <= 200; n++) {
            if (reached.contains(goal)) return n;
            Set<List<Integer>> more = new HashSet<>(reached);
            for (List<Integer> m : reached) {
                for (int t = 0; t < net.steps.size(); t++) {
                    if (net.why(m, t) == 0 && members.contains(net.after(m, t))) {
                        more.add(net.after(m, t));
                    }
                }
            }
            reached = more;
        }
        throw new IllegalStateException("not reached");
    }

    private static final class Way {
        final int cost, steps, first;
        final List<Integer> at;

        Way(int cost, int steps, int first, List<Integer> at) {
            this.cost = cost;
            this.steps = steps;
            this.first = first;
            this.at = at;
        }
    }

    int home(int what) {
        if (!in(what, 0, 2)) return out(BAD);
        Set<List<Integer>> members = new HashSet<>(net.search(net.present));
        PriorityQueue<Way> open = new PriorityQueue<>(
            Comparator.<Way>comparingInt(w -> w.cost).thenComparingInt(w -> w.steps).thenComparingInt(w -> w.first));
        open.add(new Way(0, 0, NONE, net.present));
        Set<List<Integer>> settled = new HashSet<>();
        while (!open.isEmpty()) {
            Way w = open.remove();
            if (!settled.add(w.at)) continue;
            if (w.at.equals(net.home())) return what == 0 ? w.cost : what == 1 ? w.steps : w.first;
            for (int t = 0; t < net.steps.size(); t++) {
                if (net.why(w.at, t) == 0 && members.contains(net.after(w.at, t))) {
                    open.add(new Way(w.cost + net.steps.get(t).cost, w.steps + 1, w.steps == 0 ? t : w.first, net.after(w.at, t)));
                }
            }
        }
        return NONE;
    }

    int type(int c) {
        if (!in(c, 0, 127)) return out(BAD);
        if (text.length() == 120) return out(FULL);
        text.append((char) c);
        return text.length();
    }

    int clear() {
        int old = text.length();
        text.setLength(0);
        return old;
    }

    int reads() {
        ModelText reading = new ModelText(net.copy(), text.toString());
        int answer = reading.run();
        if (answer >= 0) {
            change();
            net = reading.net;
        }
        return answer;
    }

    int back() {
        if (kept.isEmpty()) return out(NO);
        net = kept.remove(kept.size() - 1);
        return kept.size();
    }

    int told(int what) {
        if (!in(what, 0, 8)) return out(BAD);
        int[] numbers = {counts[0], counts[1], counts[2], text.length(), net.starts.size(), net.steps.size(),
            net.guards.size(), net.keeper ? 1 : 0, kept.size()};
        return numbers[what];
    }

    long digest() {
        List<Integer> numbers = new ArrayList<>();
        for (int what = 0; what <= 8; what++) numbers.add(told(what));
        for (int p = 0; p < net.starts.size(); p++) {
            numbers.addAll(List.of(net.starts.get(p), net.present.get(p), net.lost.get(p)));
        }
        for (int t = 0; t < net.steps.size(); t++) {
            numbers.addAll(List.of(stepOf(t, 0), stepOf(t, 1), stepOf(t, 2)));
        }
        for (Guard g : net.guards) numbers.addAll(List.of(g.set, g.least));
        for (int what = 0; what <= 3; what++) numbers.add(all(what));
        numbers.add(sums());
        numbers.add(stucks());
        BigInteger h = BigInteger.valueOf(2221);
        for (int v : numbers) h = h.multiply(BigInteger.valueOf(31)).add(BigInteger.valueOf(v));
        return h.longValue();
    }
}
