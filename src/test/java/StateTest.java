/** Promises 36 to 38: back, told, digest; and how refusals are counted. */
public final class StateTest {
    private static final int BAD = PalletNets.BAD, NO = PalletNets.NO;
    private static final Checks C = new Checks("StateTest");

    public static void main(String[] args) {
        back();
        backRestoresAll();
        told();
        counting();
        digest();
        C.end();
    }

    private static void back() {
        PalletNets x = new PalletNets();
        C.refuses(x, NO, "36: back() on a new object", x::back);
        for (int p = 0; p < 7; p++) {
            x.place(p);
        }
        C.due("36: five states at most", x.told(8), 5);
        for (int left = 4; left >= 0; left--) {
            C.due("36: back()", x.back(), left);
            C.due("36: places then", x.told(4), left + 2);
            C.due("36: told(8)", x.told(8), left);
        }
        C.refuses(x, NO, "36: back() past the oldest", x::back);
        x.place(9);
        C.due("36: back() is no change", x.back(), 0);
        x.place(8);
        x.place(7);
        x.back();
        x.place(6);
        x.back();
        C.due("36: a new change after back()", x.of(2, 0), 8);
        C.due("36: the older one", x.back(), 0);
        C.due("36: and its places", x.told(4), 2);
    }

    private static void backRestoresAll() {
        PalletNets x = Checks.worn();
        long worn = Checks.state(x);
        int sums = x.sums();
        int stucks = x.stucks();
        int markings = x.all(0);
        x.draw(1234, 8, 6);
        x.sums();
        x.all(0);
        Checks.text(x, "p1");
        C.due("36: back()", x.back(), 4);
        x.clear();
        C.due("36: net, guards, lost tokens, present marking, keeper", Checks.state(x), worn);
        C.due("36: sums()", x.sums(), sums);
        C.due("36: stucks()", x.stucks(), stucks);
        C.due("36: all(0)", x.all(0), markings);
        x.keeper(0);
        x.back();
        C.due("36: the keeper is on again", x.told(7), 1);
        PalletNets y = Checks.net("p1;");
        y.place(16);
        Checks.text(y, "abc");
        y.back();
        C.due("36: counts stay", y.told(0), 1);
        C.due("36: the text stays", y.told(3), 3);
        // a state that was kept is not touched by what comes after it
        PalletNets z = Checks.net("p2;p2;t3 0>1;");
        z.guard(1, 1);
        z.goes(0);
        z.loses(1);
        z.cost(0, 8);
        z.arc(0, 1, 1, 2);
        z.back();
        C.due("36: cost", z.stepOf(0, 0), 8);
        C.due("36: arc", z.arcOf(0, 1, 1), 1);
        C.due("36: lost", z.of(1, 2), 1);
        z.back();
        C.due("36: cost", z.stepOf(0, 0), 3);
        z.back();
        C.due("36: lost", z.of(1, 2), 0);
        C.due("36: present", z.of(1, 1), 3);
        z.back();
        C.due("36: present", z.of(1, 1), 2);
        z.back();
        C.due("36: guards", z.told(6), 0);
        PalletNets g = Checks.net("p9;p9;g0/3;");
        g.drop(0);
        g.guard(2, 7);
        g.back();
        g.back();
        C.due("36: a guard's places", g.guardOf(0, 0), 1);
        C.due("36: a guard's least number", g.guardOf(0, 1), 3);
    }

    private static void told() {
        PalletNets x = Checks.worn();
        x.type('p');
        x.place(16);
        x.place(17);
        x.loses(2);
        int[] due = {2, 1, 0, 1, 3, 1, 1, 1, 4};
        for (int what = 0; what <= 8; what++) {
            C.due("37: told(" + what + ")", x.told(what), due[what]);
        }
        C.refuses(x, BAD, "37: told(9)", () -> x.told(9));
        C.refuses(x, BAD, "37: told(-1)", () -> x.told(-1));
        C.due("37: told(0)", x.told(0), 4);
    }

    private static void counting() {
        PalletNets x = new PalletNets();
        x.back();
        x.back();
        x.of(0, 0);
        x.found(-1, 0);
        x.sum(0, 0);
        for (int n = 0; n < 12; n++) {
            x.place(1);
        }
        C.due("37: BAD, by queries too", x.told(0), 3);
        C.due("37: NO", x.told(1), 2);
        C.due("37: FULL", x.told(2), 2);
        x.value(99, 0);
        x.stuck(99, 0);
        x.found(99, 0);
        x.home(2);
        x.reads();
        C.due("37: NONE and error positions are not counted", x.told(0) + x.told(1) + x.told(2), 7);
    }

    private static long hash(long... numbers) {
        long h = 2221;
        for (long v : numbers) {
            h = 31 * h + v;
        }
        return h;
    }

    private static void digest() {
        PalletNets x = new PalletNets();
        C.due("38: a new object", x.digest(), hash(0, 0, 0, 0, 0, 0, 0, 0, 0, 1, 1, 1, 0, 0, 0));
        C.due("38: digest() is no change and counts nothing", x.digest(), hash(0, 0, 0, 0, 0, 0, 0, 0, 0, 1, 1, 1, 0, 0, 0));
        PalletNets w = Checks.worn();
        w.type('p');
        w.place(16);
        w.loses(2);
        // places 0 and 2 together and place 1 are the invariants; {0} and {1} the minimal siphons;
        // home (3, 1, 0) with the guard for 0 and 1: four markings, the last of them stuck, three without a way home
        C.due("38: digest()", w.digest(), hash(1, 1, 0, 1, 3, 1, 1, 1, 4,
            3, 2, 0, 2, 1, 1, 0, 1, 0,
            1, 1, 1,
            3, 1,
            4, 1, 1, 3, 2, 2));
    }
}
