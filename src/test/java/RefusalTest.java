import java.util.function.Supplier;
import java.util.function.ToLongFunction;

/** BAD, NO and FULL: which of them comes first, that such a call changes nothing, and that it is counted. */
public final class RefusalTest {
    private static final int BAD = PalletNets.BAD, NO = PalletNets.NO, FULL = PalletNets.FULL, NONE = PalletNets.NONE;
    private static final int MIN = Integer.MIN_VALUE, MAX = Integer.MAX_VALUE;
    private static final Checks C = new Checks("RefusalTest");

    public static void main(String[] args) {
        badBeforeAll();
        noBeforeFull();
        noChangesNothing();
        fullChangesNothing();
        noneOnlyWithoutError();
        counted();
        queriesChangeNothing();
        errorsChangeNothing();
        C.end();
    }

    /** Five states are kept, one of each kind of thing is there, and the text has a byte. */
    private static PalletNets worn() {
        PalletNets x = Checks.worn();
        x.guard(5, 2);
        x.type('x');
        return x;
    }

    /** Ten places, eight steps and five guards that have just enough tokens, and 120 bytes. */
    private static PalletNets full() {
        PalletNets x = new PalletNets();
        for (int p = 0; p < 10; p++) {
            x.place(p == 0 ? 1 : 0);
        }
        for (int t = 0; t < 8; t++) {
            x.step(1);
        }
        for (int g = 0; g < 5; g++) {
            x.guard(1, 1);
        }
        for (int n = 0; n < 120; n++) {
            x.type(' ');
        }
        return x;
    }

    private static void refused(int code, String call, Supplier<PalletNets> made, ToLongFunction<PalletNets> f) {
        C.refusesAll(made, code, call, f);
    }

    private static void badBeforeAll() {
        C.says("D", "BAD: an argument is out of its range, or names something that does not exist.");
        refused(BAD, "arc, all arguments wrong", RefusalTest::worn, x -> x.arc(MIN, MAX, MIN, MAX));
        refused(BAD, "start, both wrong", RefusalTest::worn, x -> x.start(MAX, MAX));
        refused(BAD, "cost, both wrong", RefusalTest::worn, x -> x.cost(MIN, MIN));
        refused(BAD, "line, all wrong", RefusalTest::worn, x -> x.line(MAX, MAX, MAX));
        refused(BAD, "draw, all wrong", RefusalTest::worn, x -> x.draw(MIN, MIN, MIN));
        refused(BAD, "of, both wrong", RefusalTest::worn, x -> x.of(MAX, MIN));
        refused(BAD, "arcOf, all wrong", RefusalTest::worn, x -> x.arcOf(MAX, MAX, MAX));
        refused(BAD, "stepOf, both wrong", RefusalTest::worn, x -> x.stepOf(MIN, MIN));
        refused(BAD, "runs, both wrong", RefusalTest::worn, x -> x.runs(MAX, MAX));
        refused(BAD, "sum, both wrong", RefusalTest::worn, x -> x.sum(MIN, MAX));
        refused(BAD, "value, both wrong", RefusalTest::worn, x -> x.value(MIN, MAX));
        refused(BAD, "stuck, both wrong", RefusalTest::worn, x -> x.stuck(MIN, MAX));
        refused(BAD, "guard, both wrong", RefusalTest::worn, x -> x.guard(MIN, MAX));
        refused(BAD, "guardOf, both wrong", RefusalTest::worn, x -> x.guardOf(MAX, MAX));
        refused(BAD, "found, both wrong", RefusalTest::worn, x -> x.found(MIN, MAX));
        C.says("D", "If several of them apply, the first one in this order is returned.");
        refused(BAD, "BAD before FULL: place(16)", RefusalTest::full, x -> x.place(16));
        refused(BAD, "BAD before FULL: step(10)", RefusalTest::full, x -> x.step(10));
        refused(BAD, "BAD before FULL: line(0, 0, 0)", RefusalTest::full, x -> x.line(0, 0, 0));
        refused(BAD, "BAD before FULL: line(1, 10, 0)", RefusalTest::full, x -> x.line(1, 10, 0));
        refused(BAD, "BAD before FULL: line(1, 0, 10)", RefusalTest::full, x -> x.line(1, 0, 10));
        refused(BAD, "BAD before FULL: type(128)", RefusalTest::full, x -> x.type(128));
        refused(BAD, "BAD before NO and FULL: guard(0, 1), whose places have no token", RefusalTest::full, x -> x.guard(0, 1));
        refused(BAD, "BAD before NO and FULL: guard(1024, 1)", RefusalTest::full, x -> x.guard(1024, 1));
        refused(BAD, "BAD before NO and FULL: guard(1, 10), more tokens than there are", RefusalTest::full, x -> x.guard(1, 10));
        refused(BAD, "BAD before FULL: guard(1, 0)", RefusalTest::full, x -> x.guard(1, 0));
        refused(BAD, "BAD before NO: guard(2, 10), a place without tokens", () -> Checks.net("p0;p0;"), x -> x.guard(2, 10));
        refused(BAD, "BAD, for NO can't be told: goes(1)", RefusalTest::worn, x -> x.goes(1));
        refused(BAD, "BAD, for NO can't be told: loses(3)", RefusalTest::worn, x -> x.loses(3));
        refused(BAD, "BAD, for NO can't be told: returns(3)", RefusalTest::worn, x -> x.returns(3));
    }

    private static void noBeforeFull() {
        refused(NO, "NO before FULL: guard(1, 2), a sixth", RefusalTest::full, x -> x.guard(1, 2));
        refused(NO, "NO before FULL: guard(2, 1), a sixth", RefusalTest::full, x -> x.guard(2, 1));
        refused(FULL, "FULL where NO does not apply: guard(1, 1), a sixth", RefusalTest::full, x -> x.guard(1, 1));
        refused(FULL, "FULL where NO does not apply: guard(1023, 1), a sixth", RefusalTest::full, x -> x.guard(1023, 1));
    }

    private static void noChangesNothing() {
        C.says("D", "NO: the call is not possible, as the method says.");
        refused(NO, "goes(0), no token to take", () -> Checks.net("p1;p0;t0 1>0;"), x -> x.goes(0));
        refused(NO, "goes(0), a sixteenth token", () -> Checks.net("p15;t0>0;"), x -> x.goes(0));
        refused(NO, "goes(0), a guard", () -> Checks.net("p1;t0 0>;g0/1;"), x -> x.goes(0));
        refused(NO, "goes(0), the keeper", () -> {
            PalletNets x = Checks.net("p1;t0 0>;");
            x.keeper(1);
            return x;
        }, x -> x.goes(0));
        // place 1 has lost its one token, place 2 has a token and the start 0
        refused(NO, "loses(1), all lost, and none there", () -> {
            PalletNets x = worn();
            x.loses(1);
            return x;
        }, x -> x.loses(1));
        refused(NO, "loses(2), the start 0", RefusalTest::worn, x -> x.loses(2));
        refused(NO, "loses(0), none there", () -> Checks.net("p0;"), x -> x.loses(0));
        refused(NO, "returns(0), none lost", RefusalTest::worn, x -> x.returns(0));
        refused(NO, "returns(0), 15 there", () -> {
            PalletNets x = Checks.net("p15;t0>0;");
            x.loses(0);
            x.goes(0);
            return x;
        }, x -> x.returns(0));
        refused(NO, "guard(1, 4)", RefusalTest::worn, x -> x.guard(1, 4));
        refused(NO, "back(), none kept", PalletNets::new, PalletNets::back);
    }

    private static void fullChangesNothing() {
        C.says("D", "FULL: there is no room.");
        refused(FULL, "place(0)", RefusalTest::full, x -> x.place(0));
        refused(FULL, "step(0)", RefusalTest::full, x -> x.step(0));
        refused(FULL, "line(1, 0, 0)", RefusalTest::full, x -> x.line(1, 0, 0));
        refused(FULL, "guard(1, 1)", RefusalTest::full, x -> x.guard(1, 1));
        refused(FULL, "type(59)", RefusalTest::full, x -> x.type(59));
    }

    private static void noneOnlyWithoutError() {
        C.says("D", "NONE means that there is no such value; it is returned only if no error applies.");
        refused(BAD, "sum(99, 3)", RefusalTest::worn, x -> x.sum(99, 3));
        refused(BAD, "sum(99, -1)", RefusalTest::worn, x -> x.sum(99, -1));
        refused(BAD, "value(99, 4)", RefusalTest::worn, x -> x.value(99, 4));
        refused(BAD, "value(99, -1)", RefusalTest::worn, x -> x.value(99, -1));
        refused(BAD, "stuck(99, 6)", RefusalTest::worn, x -> x.stuck(99, 6));
        refused(BAD, "stuck(99, -1)", RefusalTest::worn, x -> x.stuck(99, -1));
        refused(BAD, "found(999, 4)", RefusalTest::worn, x -> x.found(999, 4));
        refused(BAD, "found(999, -1)", RefusalTest::worn, x -> x.found(999, -1));
        refused(BAD, "sum(0, 0) without places", PalletNets::new, x -> x.sum(0, 0));
        none("sum(99, 0)", RefusalTest::worn, x -> x.sum(99, 0));
        none("value(99, 0)", RefusalTest::worn, x -> x.value(99, 0));
        none("stuck(99, 0)", RefusalTest::worn, x -> x.stuck(99, 0));
        none("found(999, 0)", RefusalTest::worn, x -> x.found(999, 0));
        none("of(0, 3)", () -> Checks.net("p1;t0>0;"), x -> x.of(0, 3));
        none("home(2) at home", PalletNets::new, x -> x.home(2));
    }

    private static void none(String call, Supplier<PalletNets> made, ToLongFunction<PalletNets> f) {
        PalletNets x = made.get();
        C.none(x, call, () -> f.applyAsLong(x));
        C.changesNothing(made, call, f);
    }

    private static void counted() {
        C.says("D", "A call that returns one of them changes nothing, but it is counted for each of the three how often it has "
            + "been returned (by queries, too; error positions are not counted).");
        PalletNets x = full();
        int[] due = {0, 0, 0};
        for (int n = 0; n < 30; n++) {
            C.due("place(-1)", x.place(-1), BAD);
            C.due("all(6), a query", x.all(6), BAD);
            C.due("found(-1, 0), a query", x.found(-1, 0), BAD);
            C.due("guard(1, 2)", x.guard(1, 2), NO);
            C.due("returns(0)", x.returns(0), NO);
            C.due("place(1)", x.place(1), FULL);
            C.due("found(999, 0)", x.found(999, 0), NONE);
            C.due("reads() of 120 spaces", x.reads(), -130);
            due[0] += 3;
            due[1] += 2;
            due[2]++;
        }
        for (int what = 0; what <= 2; what++) {
            C.due("told(" + what + ")", x.told(what), due[what]);
        }
        C.due("told(9), which counts itself", x.told(9), BAD);
        C.due("told(0) then", x.told(0), due[0] + 1);
        x.back();
        C.due("back() does not take counts back", x.told(0) + x.told(1) + x.told(2), 181);
        x.anew();
        x.clear();
        C.due("nor do anew() and clear()", x.told(0) + x.told(1) + x.told(2), 181);
    }

    private static void queriesChangeNothing() {
        query("of", x -> x.of(0, 0) + x.of(0, 1) + x.of(0, 2) + x.of(0, 3) + x.of(0, 4) + x.of(0, 5));
        query("arcOf", x -> x.arcOf(0, 0, 0));
        query("stepOf", x -> x.stepOf(0, 0) + x.stepOf(0, 1));
        query("can", x -> x.can(0));
        query("sums", x -> x.sums() + x.sum(0, 0) + x.value(0, 1));
        query("stucks", x -> x.stucks() + x.stuck(0, 3) + x.stuck(0, 5) + x.sort(3));
        query("guardOf", x -> x.guardOf(0, 3) + x.guardOf(0, 4));
        query("all", x -> x.all(0) + x.all(1) + x.all(2) + x.all(3) + x.all(4) + x.all(5));
        query("found", x -> x.found(1, 0) + x.found(1, 1) + x.found(1, 2) + x.found(1, 3));
        query("home", x -> x.home(0) + x.home(1) + x.home(2));
        query("told", x -> x.told(0) + x.told(8));
        query("digest", PalletNets::digest);
        query("type and clear", x -> {
            x.type('y');
            x.clear();
            return x.type('x');
        });
    }

    private static void query(String what, ToLongFunction<PalletNets> f) {
        C.changesNothing(RefusalTest::worn, what, f);
        PalletNets x = worn();
        long before = x.digest();
        f.applyAsLong(x);
        C.due(what + " changes and counts nothing: digest()", x.digest(), before);
    }

    /** Orders before the error are undone, whatever they would have changed. */
    private static void errorsChangeNothing() {
        C.says("35", "otherwise nothing is done.");
        for (String orders : new String[] {"", "p1;", "t1 0>1;", "l1 0;", "g0/1;", "p1;t1 0>1;l1 0;g0/1;"}) {
            String text = orders + "x";
            Supplier<PalletNets> made = () -> {
                PalletNets x = worn();
                Checks.text(x, text);
                return x;
            };
            C.due("reads() of " + text, made.get().reads(), -10 - orders.length());
            C.changesNothing(made, "reads() of " + text, PalletNets::reads);
            PalletNets x = made.get();
            long before = x.digest();
            x.reads();
            C.due("reads() of " + text + " is not counted: digest()", x.digest(), before);
        }
    }
}
