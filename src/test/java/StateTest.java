import java.math.BigInteger;

/** Promises 36 to 38: back, told, digest; and how refusals are counted. */
public final class StateTest {
    private static final int BAD = PalletNets.BAD, NO = PalletNets.NO;
    private static final Checks C = new Checks("StateTest");

    public static void main(String[] args) {
        back();
        backRestoresAll();
        told();
        counting();
        digest();
        C.end();
    }

    private static void back() {
        C.says("36", "Returns the number of states that are still kept; NO if there is none.");
        PalletNets x = new PalletNets();
        C.refuses(x, NO, "36: back() on a new object", x::back);
        for (int p = 0; p < 7; p++) {
            x.place(p);
        }
        C.due("36: five states at most", x.told(8), 5);
        for (int left = 4; left >= 0; left--) {
            C.due("36: back()", x.back(), left);
            C.due("36: places then", x.told(4), left + 2);
            C.due("36: told(8)", x.told(8), left);
        }
        C.refuses(x, NO, "36: back() past the oldest", x::back);
        x.place(9);
        C.due("36: back() is no change", x.back(), 0);
        x.place(8);
        x.place(7);
        x.back();
        x.place(6);
        x.back();
        C.due("36: a new change after back()", x.of(2, 0), 8);
        C.due("36: the older one", x.back(), 0);
        C.due("36: and its places", x.told(4), 2);
    }

    private static void backRestoresAll() {
        C.says("36", "Restores the latest state that is kept, which is not kept any more then.");
        PalletNets x = Checks.worn();
        long worn = Checks.state(x);
        int sums = x.sums();
        int stucks = x.stucks();
        int markings = x.all(0);
        x.draw(1234, 8, 6);
        x.sums();
        x.all(0);
        Checks.text(x, "p1");
        C.due("36: back()", x.back(), 4);
        x.clear();
        C.due("36: net, guards, lost tokens, present marking, keeper", Checks.state(x), worn);
        C.due("36: sums()", x.sums(), sums);
        C.due("36: stucks()", x.stucks(), stucks);
        C.due("36: all(0)", x.all(0), markings);
        x.keeper(0);
        x.back();
        C.due("36: the keeper is on again", x.told(7), 1);
        PalletNets y = Checks.net("p1;");
        y.place(16);
        Checks.text(y, "abc");
        y.back();
        C.due("36: counts stay", y.told(0), 1);
        C.due("36: the text stays", y.told(3), 3);
        // a state that was kept is not touched by what comes after it
        PalletNets z = Checks.net("p2;p2;t3 0>1;");
        z.guard(1, 1);
        z.goes(0);
        z.loses(1);
        z.cost(0, 8);
        z.arc(0, 1, 1, 2);
        z.back();
        C.due("36: cost", z.stepOf(0, 0), 8);
        C.due("36: arc", z.arcOf(0, 1, 1), 1);
        C.due("36: lost", z.of(1, 2), 1);
        z.back();
        C.due("36: cost", z.stepOf(0, 0), 3);
        z.back();
        C.due("36: lost", z.of(1, 2), 0);
        C.due("36: present", z.of(1, 1), 3);
        z.back();
        C.due("36: present", z.of(1, 1), 2);
        z.back();
        C.due("36: guards", z.told(6), 0);
        PalletNets g = Checks.net("p9;p9;g0/3;");
        g.drop(0);
        g.guard(2, 7);
        g.back();
        g.back();
        C.due("36: a guard's places", g.guardOf(0, 0), 1);
        C.due("36: a guard's least number", g.guardOf(0, 1), 3);
    }

    private static void told() {
        PalletNets x = Checks.worn();
        x.type('p');
        x.place(16);
        x.place(17);
        x.loses(2);
        C.says("37", "Returns a number.");
        C.due("37: told(4)", x.told(4), 3);
        C.says("37", "0, 1, 2: how often BAD, NO, FULL has been returned; 3: bytes of the text; 4: places; 5: steps; 6: guards; 7: 1 if the "
            + "keeper is on, else 0; 8: states that are kept");
        int[] due = {2, 1, 0, 1, 3, 1, 1, 1, 4};
        for (int what = 0; what <= 8; what++) {
            C.due("37: told(" + what + ")", x.told(what), due[what]);
        }
        int[] most = {1, 1, 1, 120, 10, 8, 5, 1, 5};
        PalletNets full = full();
        for (int what = 0; what <= 8; what++) {
            C.due("37: as much as there can be, told(" + what + ")", full.told(what), most[what]);
        }
        C.says("37", "Returns the number; BAD.");
        C.refuses(x, BAD, "37: told(9)", () -> x.told(9));
        C.refuses(x, BAD, "37: told(-1)", () -> x.told(-1));
        C.due("37: told(0)", x.told(0), 4);
    }

    private static void counting() {
        PalletNets x = new PalletNets();
        x.back();
        x.back();
        x.of(0, 0);
        x.found(-1, 0);
        x.sum(0, 0);
        for (int n = 0; n < 12; n++) {
            x.place(1);
        }
        C.due("37: BAD, by queries too", x.told(0), 3);
        C.due("37: NO", x.told(1), 2);
        C.due("37: FULL", x.told(2), 2);
        x.value(99, 0);
        x.stuck(99, 0);
        x.found(99, 0);
        x.home(2);
        x.reads();
        C.due("37: NONE and error positions are not counted", x.told(0) + x.told(1) + x.told(2), 7);
    }

    private static long hash(long... numbers) {
        long h = 2221;
        for (long v : numbers) {
            h = 31 * h + v;
        }
        return h;
    }

    private static void digest() {
        C.says("38", "Returns a hash of the state. It starts with h = 2221; for each of the following numbers v, in order, h becomes 31 * h "
            + "+ v (long arithmetic that wraps):");
        PalletNets x = new PalletNets();
        C.due("38: a new object", x.digest(), hash(0, 0, 0, 0, 0, 0, 0, 0, 0, 1, 1, 1, 0, 0, 0));
        // without wrapping it would be 52116346883887047480003634
        BigInteger whole = new BigInteger("52116346883887047480003634");
        C.due("38: a new object, whose hash wraps below 0", x.digest(), -3215711610160722894L);
        C.due("38: as the whole number wraps", x.digest(), whole.longValue());
        C.due("38: digest() is no change and counts nothing", x.digest(), -3215711610160722894L);
        PalletNets place = new PalletNets();
        place.place(5);
        C.due("38: a place, whose hash wraps and is above 0", place.digest(), 648228659720143402L);
        PalletNets step = new PalletNets();
        step.step(7);
        C.due("38: a step", step.digest(), -4534909212007823308L);
        C.says("38", "told() for 0 to 8; for each place of() for 0 to 2; for each step stepOf() for 0 to 2; for each guard guardOf() for 0 "
            + "and 1; all() for 0 to 3; sums(); stucks().");
        PalletNets w = Checks.worn();
        w.type('p');
        w.place(16);
        w.loses(2);
        // places 0 and 2 together and place 1 are the invariants; {0} and {1} the minimal siphons;
        // home (3, 1, 0) with the guard for 0 and 1: four markings, the last of them stuck, three without a way home
        C.due("38: digest()", w.digest(), hash(1, 1, 0, 1, 3, 1, 1, 1, 4,
            3, 2, 0, 2, 1, 1, 0, 1, 0,
            1, 1, 1,
            3, 1,
            4, 1, 1, 3, 2, 2));
        C.due("38: digest()", w.digest(), -9118932368578481896L);
        numberByNumber(w);
        numberByNumber(Checks.net("p3;p9;p0;t5 0>1;t0 1 1>0 2;g01/4;g1/9;"));
        C.says("38", "Returns h.");
        C.due("38: as much as there can be", full().digest(), 9071658925862611769L);
        numberByNumber(full());
    }

    /** The same hash, from what the queries answer. */
    private static void numberByNumber(PalletNets x) {
        long h = 2221;
        for (int what = 0; what <= 8; what++) {
            h = 31 * h + x.told(what);
        }
        int places = x.told(4);
        int steps = x.told(5);
        int guards = x.told(6);
        for (int p = 0; p < places; p++) {
            h = 31 * (31 * (31 * h + x.of(p, 0)) + x.of(p, 1)) + x.of(p, 2);
        }
        for (int t = 0; t < steps; t++) {
            h = 31 * (31 * (31 * h + x.stepOf(t, 0)) + x.stepOf(t, 1)) + x.stepOf(t, 2);
        }
        for (int g = 0; g < guards; g++) {
            h = 31 * (31 * h + x.guardOf(g, 0)) + x.guardOf(g, 1);
        }
        for (int what = 0; what <= 3; what++) {
            h = 31 * h + x.all(what);
        }
        C.due("38: digest(), number by number", x.digest(), 31 * (31 * h + x.sums()) + x.stucks());
    }

    /** Ten places of 15 tokens, eight steps, five guards, 120 bytes, the keeper on, and one refusal of each kind. */
    private static PalletNets full() {
        PalletNets x = new PalletNets();
        for (int p = 0; p < 10; p++) {
            x.place(15);
        }
        for (int t = 0; t < 8; t++) {
            x.step(9);
        }
        for (int g = 0; g < 5; g++) {
            x.guard(1023, 9);
        }
        for (int n = 0; n < 120; n++) {
            x.type(' ');
        }
        x.keeper(1);
        x.place(16);
        x.returns(0);
        x.place(15);
        return x;
    }
}
