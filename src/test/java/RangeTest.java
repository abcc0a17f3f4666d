import java.util.function.Supplier;
import java.util.function.ToLongBiFunction;

/** Every argument of every method: just below its range, at both of its ends, and just above it. */
public final class RangeTest {
    private static final int BAD = PalletNets.BAD, NONE = PalletNets.NONE;
    private static final Checks C = new Checks("RangeTest");

    /** Three places, two steps, two guards; a token is lost, a step has gone, the keeper is on. */
    private static PalletNets some() {
        PalletNets x = Checks.net("p9;p9;p3;t1 0>1;t2 1>0;g0/1;g01/2;");
        x.loses(2);
        x.goes(0);
        x.keeper(1);
        return x;
    }

    /** Ten places, eight steps, five guards: as many as there can be. */
    private static PalletNets most() {
        return Checks.net("p9;".repeat(10) + "t1 0>1;".repeat(8) + "g9/1;".repeat(5));
    }

    public static void main(String[] args) {
        net();
        netQueries();
        runs();
        sums();
        stuckSets();
        guards();
        searches();
        textAndTold();
        C.end();
    }

    private static void refused(String call, int v, Supplier<PalletNets> made, ToLongBiFunction<PalletNets, Integer> f) {
        C.refusesAll(made, BAD, call + " with " + v, x -> f.applyAsLong(x, v));
    }

    private static void taken(String call, int v, Supplier<PalletNets> made, ToLongBiFunction<PalletNets, Integer> f) {
        PalletNets x = made.get();
        long answer = f.applyAsLong(x, v);
        C.isTrue(call + " with " + v + " is answered, not refused by " + answer, answer >= 0);
        C.due(call + " with " + v + " is not counted", x.told(0) + x.told(1) + x.told(2), 0);
    }

    private static void range(String call, int least, int most, Supplier<PalletNets> made,
            ToLongBiFunction<PalletNets, Integer> f) {
        refused(call, Integer.MIN_VALUE, made, f);
        refused(call, least - 1, made, f);
        taken(call, least, made, f);
        taken(call, most, made, f);
        refused(call, most + 1, made, f);
        refused(call, Integer.MAX_VALUE, made, f);
    }

    /** A number of a place in a net with three of them, and in one with ten. */
    private static void place(String call, ToLongBiFunction<PalletNets, Integer> f) {
        range(call, 0, 2, RangeTest::some, f);
        range(call, 0, 9, RangeTest::most, f);
    }

    /** A number of a step in a net with two of them, and in one with eight. */
    private static void step(String call, ToLongBiFunction<PalletNets, Integer> f) {
        range(call, 0, 1, RangeTest::some, f);
        range(call, 0, 7, RangeTest::most, f);
    }

    private static void guard(String call, ToLongBiFunction<PalletNets, Integer> f) {
        range(call, 0, 1, RangeTest::some, f);
        range(call, 0, 4, RangeTest::most, f);
    }

    /** A number that only has to be 0 or greater; past the last one there is no such value. */
    private static void number(String call, int last, ToLongBiFunction<PalletNets, Integer> f) {
        refused(call, Integer.MIN_VALUE, RangeTest::some, f);
        refused(call, -1, RangeTest::some, f);
        taken(call, 0, RangeTest::some, f);
        taken(call, last, RangeTest::some, f);
        for (int v : new int[] {last + 1, Integer.MAX_VALUE}) {
            PalletNets x = some();
            C.none(x, call + " with " + v, () -> f.applyAsLong(x, v));
            C.changesNothing(RangeTest::some, call + " with " + v, y -> f.applyAsLong(y, v));
        }
    }

    private static void net() {
        C.says("2", "its start, 0 to 15");
        range("place(v)", 0, 15, RangeTest::some, (x, v) -> x.place(v));
        C.says("3", "its cost, 0 to 9");
        range("step(c)", 0, 9, RangeTest::some, (x, v) -> x.step(v));
        C.says("4", "number of the step");
        step("arc(t, 0, 0, 1)", (x, v) -> x.arc(v, 0, 0, 1));
        C.says("4", "number of the place");
        place("arc(0, p, 0, 1)", (x, v) -> x.arc(0, v, 0, 1));
        C.says("4", "0: takes; 1: gives");
        range("arc(0, 0, way, 1)", 0, 1, RangeTest::some, (x, v) -> x.arc(0, 0, v, 1));
        C.says("4", "the new number, 0 to 2");
        range("arc(0, 0, 0, w)", 0, 2, RangeTest::some, (x, v) -> x.arc(0, 0, 0, v));
        C.says("5", "number of the place");
        place("start(p, 1)", (x, v) -> x.start(v, 1));
        C.says("5", "the new start, 0 to 15");
        range("start(0, v)", 0, 15, RangeTest::some, (x, v) -> x.start(0, v));
        C.says("6", "number of the step");
        step("cost(t, 1)", (x, v) -> x.cost(v, 1));
        C.says("6", "the new cost, 0 to 9");
        range("cost(0, c)", 0, 9, RangeTest::some, (x, v) -> x.cost(0, v));
        C.says("7", "1 to 9");
        range("line(k, 0, 1)", 1, 9, RangeTest::some, (x, v) -> x.line(v, 0, 1));
        C.says("7", "the place of the first machine");
        range("line(1, a, 1)", 0, 2, RangeTest::some, (x, v) -> x.line(1, v, 1));
        range("line(1, a, 0), ten places in all", 0, 6, () -> Checks.net("p1;".repeat(7)), (x, v) -> x.line(1, v, 0));
        C.says("7", "the place of the second machine");
        range("line(1, 0, b)", 0, 2, RangeTest::some, (x, v) -> x.line(1, 0, v));
        range("line(1, 0, b), ten places in all", 0, 6, () -> Checks.net("p1;".repeat(7)), (x, v) -> x.line(1, 0, v));
        C.says("8", "0 to 999999");
        range("draw(seed, 2, 2)", 0, 999999, RangeTest::some, (x, v) -> x.draw(v, 2, 2));
        C.says("8", "1 to 10");
        range("draw(7, n, 2)", 1, 10, RangeTest::some, (x, v) -> x.draw(7, v, 2));
        C.says("8", "1 to 8");
        range("draw(7, 2, m)", 1, 8, RangeTest::some, (x, v) -> x.draw(7, 2, v));
    }

    private static void netQueries() {
        C.says("10", "number of the place");
        for (int what = 0; what <= 5; what++) {
            int w = what;
            place("of(p, " + w + ")", (x, v) -> x.of(v, w));
        }
        range("of(0, what)", 0, 5, RangeTest::some, (x, v) -> x.of(0, v));
        C.says("11", "number of the step");
        step("arcOf(t, 0, 0)", (x, v) -> x.arcOf(v, 0, 0));
        C.says("11", "number of the place");
        place("arcOf(0, p, 1)", (x, v) -> x.arcOf(0, v, 1));
        C.says("11", "0: takes; 1: gives");
        range("arcOf(0, 0, way)", 0, 1, RangeTest::some, (x, v) -> x.arcOf(0, 0, v));
        C.says("12", "number of the step");
        step("stepOf(t, 0)", (x, v) -> x.stepOf(v, 0));
        range("stepOf(0, what)", 0, 2, RangeTest::some, (x, v) -> x.stepOf(0, v));
    }

    private static void runs() {
        C.says("13", "number of the step");
        step("can(t)", (x, v) -> x.can(v));
        C.says("14", "number of the step");
        step("goes(t)", (x, v) -> x.goes(v));
        C.says("15", "1 to 8");
        range("runs(n, 0)", 1, 8, RangeTest::some, (x, v) -> x.runs(v, 0));
        range("runs(1, by)", 0, 2, RangeTest::some, (x, v) -> x.runs(1, v));
        C.says("17", "number of the place");
        place("loses(p)", (x, v) -> x.loses(v));
        C.says("18", "number of the place");
        Supplier<PalletNets> lost = () -> {
            PalletNets x = some();
            x.loses(0);
            return x;
        };
        range("returns(p)", 0, 2, lost, (x, v) -> x.returns(v));
        Supplier<PalletNets> tenLost = () -> {
            PalletNets x = most();
            x.loses(0);
            x.loses(9);
            return x;
        };
        range("returns(p)", 0, 9, tenLost, (x, v) -> x.returns(v));
        C.says("19", "1: on; 0: off");
        range("keeper(v)", 0, 1, RangeTest::some, (x, v) -> x.keeper(v));
    }

    private static void sums() {
        // the invariants are places 0 and 1 together, and place 2 alone
        C.says("21", "number of the invariant");
        number("sum(k, 0)", 1, (x, v) -> x.sum(v, 0));
        C.says("21", "number of the place");
        place("sum(0, p)", (x, v) -> x.sum(0, v));
        C.says("22", "number of the invariant");
        for (int what = 0; what <= 3; what++) {
            int w = what;
            number("value(k, " + w + ")", 1, (x, v) -> x.value(v, w));
        }
        range("value(0, what)", 0, 3, RangeTest::some, (x, v) -> x.value(0, v));
    }

    private static void stuckSets() {
        // the minimal siphons are place 2 alone, and places 0 and 1 together
        C.says("24", "number of the siphon");
        for (int what = 0; what <= 5; what++) {
            int w = what;
            number("stuck(k, " + w + ")", 1, (x, v) -> x.stuck(v, w));
        }
        range("stuck(0, what)", 0, 5, RangeTest::some, (x, v) -> x.stuck(0, v));
        C.says("25", "the set, at least one place, all of which exist");
        range("sort(set)", 1, 7, RangeTest::some, (x, v) -> x.sort(v));
        range("sort(set) of ten places", 1, 1023, RangeTest::most, (x, v) -> x.sort(v));
        for (int set : new int[] {8, 9, 15, 1 << 10, 1 << 30, Integer.MIN_VALUE | 1, -8, -7}) {
            refused("sort(set)", set, RangeTest::some, (x, v) -> x.sort(v));
        }
    }

    private static void guards() {
        C.says("26", "its places, at least one, all of which exist");
        range("guard(set, 1)", 1, 7, RangeTest::some, (x, v) -> x.guard(v, 1));
        range("guard(set, 1) of ten places", 1, 1023, () -> Checks.net("p1;".repeat(10)), (x, v) -> x.guard(v, 1));
        for (int set : new int[] {8, 9, 15, 1 << 10, 1 << 30, Integer.MIN_VALUE | 1, -8, -7}) {
            refused("guard(set, 1)", set, RangeTest::some, (x, v) -> x.guard(v, 1));
        }
        C.says("26", "its least number of tokens, 1 to 9");
        range("guard(1, least)", 1, 9, RangeTest::some, (x, v) -> x.guard(1, v));
        C.says("28", "number of the guard");
        guard("drop(g)", (x, v) -> x.drop(v));
        C.says("29", "number of the guard");
        for (int what = 0; what <= 4; what++) {
            int w = what;
            guard("guardOf(g, " + w + ")", (x, v) -> x.guardOf(v, w));
        }
        range("guardOf(0, what)", 0, 4, RangeTest::some, (x, v) -> x.guardOf(0, v));
    }

    private static void searches() {
        range("all(what)", 0, 5, RangeTest::some, (x, v) -> x.all(v));
        // from (9, 9, 2) tokens go between places 0 and 1, neither of which has more than 15: 13 markings
        C.says("31", "index of the marking, from 0");
        for (int what = 0; what <= 3; what++) {
            int w = what;
            number("found(m, " + w + ")", 12, (x, v) -> x.found(v, w));
        }
        range("found(0, what)", 0, 3, RangeTest::some, (x, v) -> x.found(0, v));
        range("home(what)", 0, 2, RangeTest::some, (x, v) -> x.home(v));
        C.due("home(2) where a step must go", some().home(2), 1);
        C.due("home(2) at home", most().home(2), NONE);
    }

    private static void textAndTold() {
        C.says("33", "the byte, 0 to 127");
        range("type(c)", 0, 127, () -> {
            PalletNets x = some();
            x.clear();
            return x;
        }, (x, v) -> x.type(v));
        range("told(what)", 0, 8, RangeTest::some, (x, v) -> x.told(v));
    }
}
