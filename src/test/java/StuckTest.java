/** Promises 23 to 29: stuck sets and guards. */
public final class StuckTest {
    private static final int BAD = PalletNets.BAD, NO = PalletNets.NO, FULL = PalletNets.FULL;
    private static final Checks C = new Checks("StuckTest");

    /** Seven places, each with a token and a step that drains it: each is an unsafe siphon. */
    private static final String DRAINS =
        "p1;p1;p1;p1;p1;p1;p1;t0 0>;t0 1>;t0 2>;t0 3>;t0 4>;t0 5>;t0 6>;";

    public static void main(String[] args) {
        stucks();
        stuck();
        sort();
        guard();
        guards();
        drop();
        guardOf();
        guardNeeded();
        C.end();
    }

    private static void stucks() {
        C.says("23", "Counts the minimal siphons.");
        C.due("23: no places", new PalletNets().stucks(), 0);
        C.due("23: no steps", Checks.net("p0;p0;p0;").stucks(), 3);
        C.due("23: a source", Checks.net("p0;t0>0;").stucks(), 0);
        C.says("23", "Returns their number.");
        C.due("23: a ring", Checks.net("p2;p0;p0;t1 0>1;t2 1>2;t3 2>0;").stucks(), 1);
        C.due("23: seven drains", Checks.net(DRAINS).stucks(), 7);
        PalletNets x = Checks.net("p1;p1;");
        C.due("23: before a new step", x.stucks(), 2);
        x.step(0);
        x.arc(0, 0, 1, 1);
        C.due("23: after it", x.stucks(), 1);
        x.back();
        C.due("23: after back()", x.stucks(), 2);
        Checks.read(x, "t0>0;");
        C.due("23: after reads()", x.stucks(), 1);
    }

    private static void stuck() {
        // {2} is alone; 0 and 1 turn into each other; 3 is drained
        PalletNets x = Checks.net("p2;p1;p4;p3;t0 0>1;t0 1>0;t0 0 3>0 3;t0 3>;");
        C.due("23: stucks()", x.stucks(), 3);
        C.says("24", "Returns a property of a minimal siphon.");
        C.due("24: the single ones first", x.stuck(0, 0), 4);
        C.due("24: by their masks", x.stuck(1, 0), 8);
        C.due("24: then two places, though 3 is below 4", x.stuck(2, 0), 3);
        x.loses(2);
        x.goes(3);
        x.goes(0);
        C.says("24", "0: its places; 1: the sum of their starts; 2: the number of their tokens in the present marking; "
            + "3: its held part; 4: 1 if it is safe, else 0; 5: the smallest number of their tokens together in a "
            + "marking of the search from the home marking");
        int[][] due = {{4, 4, 3, 4, 1, 3}, {8, 3, 2, 0, 0, 0}, {3, 3, 3, 3, 1, 3}};
        for (int k = 0; k < 3; k++) {
            for (int what = 0; what <= 5; what++) {
                C.due("24: stuck(" + k + ", " + what + ")", x.stuck(k, what), due[k][what]);
            }
        }
        x.loses(0);
        C.due("24: of the starts", x.stuck(2, 1), 3);
        C.due("24: of the present marking", x.stuck(2, 2), 2);
        C.due("24: from home", x.stuck(2, 5), 2);
        // {0, 1} is a siphon; of it only {1} is a trap, and it is safe by the start of 1, not by its tokens
        PalletNets y = Checks.net("p1;p0;p0;t0 0>2;t0 2 1>1;");
        C.due("24: minimal siphon {0}", y.stuck(0, 0), 1);
        C.due("24: its held part", y.stuck(0, 3), 0);
        PalletNets z = Checks.net("p1;p1;t0 0 1>1;t0 1>0 1;");
        C.due("24: siphons", z.stucks(), 1);
        C.due("24: place 1 is a siphon and a trap", z.stuck(0, 3), 2);
        C.due("24: safe", z.stuck(0, 4), 1);
        z.loses(1);
        C.due("24: safe by its start, lost or not", z.stuck(0, 4), 1);
        z.start(1, 0);
        C.due("24: not safe with the start 0", z.stuck(0, 4), 0);
        // {0, 1}: step 0 drains place 0, step 1 makes 0 from 1 and keeps 1: the held part is {1} alone
        PalletNets part = Checks.net("p1;p0;p1;t0 0>2;t0 1>1 0;t0 0 2>1;");
        C.due("24: the only minimal siphon", part.stuck(0, 0), 3);
        C.due("24: a held part that is smaller", part.stuck(0, 3), 2);
        C.due("24: not safe though the siphon has a token", part.stuck(0, 4), 0);
        C.says("24", "Returns the property; NONE if there is no siphon with this number; BAD, also if k is negative.");
        PalletNets shrunk = Checks.net("p1;p1;p1;");
        C.due("24: three siphons of one place", shrunk.stucks(), 3);
        Checks.read(shrunk, "t0 0>1;t0 1>0;t0>2;");
        C.due("24: one siphon of two places", shrunk.stucks(), 1);
        C.due("24: its places", shrunk.stuck(0, 0), 3);
        C.none(shrunk, "24: nothing is left of the others", () -> shrunk.stuck(1, 0));
        C.none(x, "24: stuck(3, 0)", () -> x.stuck(3, 0));
        C.none(x, "24: stuck(MAX, 5)", () -> x.stuck(Integer.MAX_VALUE, 5));
        C.refuses(x, BAD, "24: stuck(-1, 0)", () -> x.stuck(-1, 0));
        C.refuses(x, BAD, "24: stuck(0, 6)", () -> x.stuck(0, 6));
        C.refuses(x, BAD, "24: stuck(0, -1)", () -> x.stuck(0, -1));
        C.refuses(x, BAD, "24: stuck(9, 6)", () -> x.stuck(9, 6));
    }

    private static void sort() {
        PalletNets x = Checks.net("p1;p1;p1;t0 0>1;t0 1>1 2;t0 2>0;");
        C.says("25", "Tells whether a set of places is a siphon or a trap.");
        C.due("25: neither", x.sort(1), 0);
        C.due("25: {1} is a trap alone", x.sort(2), 2);
        C.due("25: {0, 1}", x.sort(3), 2);
        C.due("25: {0, 2}", x.sort(5), 0);
        C.due("25: all", x.sort(7), 3);
        PalletNets y = Checks.net("p1;p1;t0 0>1;");
        C.says("25", "Returns 1 if it is a siphon, plus 2 if it is a trap, otherwise 0; BAD.");
        C.due("25: a siphon", y.sort(1), 1);
        C.due("25: a trap", y.sort(2), 2);
        C.due("25: both", y.sort(3), 3);
        C.due("25: no steps", Checks.net("p1;").sort(1), 3);
        C.refuses(y, BAD, "25: sort(0)", () -> y.sort(0));
        C.refuses(y, BAD, "25: sort(4)", () -> y.sort(4));
        C.refuses(y, BAD, "25: sort(-1)", () -> y.sort(-1));
        C.refuses(y, BAD, "25: sort(MIN)", () -> y.sort(Integer.MIN_VALUE));
        PalletNets ten = Checks.net("p1;p1;p1;p1;p1;p1;p1;p1;p1;p1;");
        C.due("25: ten places", ten.sort(1023), 3);
        C.refuses(ten, BAD, "25: sort(1024)", () -> ten.sort(1024));
        PalletNets none = new PalletNets();
        C.refuses(none, BAD, "25: sort(1) without places", () -> none.sort(1));
    }

    private static void guard() {
        PalletNets x = Checks.net("p3;p9;t0 0>;");
        C.says("26", "Adds a guard. This is a change.");
        C.due("26: guard(1, 3)", x.guard(1, 3), 0);
        C.due("26: its places", x.guardOf(0, 0), 1);
        C.due("26: its least number", x.guardOf(0, 1), 3);
        C.due("26: guard(3, 9)", x.guard(3, 9), 1);
        C.due("26: is a change", x.told(8), 3);
        C.says("26", "Returns the number of the guard; BAD; NO if these places have fewer tokens in the home marking; "
            + "FULL if there are 5 guards.");
        C.refuses(x, NO, "26: guard(1, 4)", () -> x.guard(1, 4));
        C.refuses(x, BAD, "26: guard(0, 1)", () -> x.guard(0, 1));
        C.refuses(x, BAD, "26: guard(4, 1)", () -> x.guard(4, 1));
        C.refuses(x, BAD, "26: guard(-1, 1)", () -> x.guard(-1, 1));
        C.refuses(x, BAD, "26: guard(1, 0)", () -> x.guard(1, 0));
        C.refuses(x, BAD, "26: guard(1, 10)", () -> x.guard(1, 10));
        x.guard(1, 1);
        x.guard(1, 1);
        C.due("26: a fifth guard", x.guard(2, 1), 4);
        C.refuses(x, FULL, "26: a sixth", () -> x.guard(1, 1));
        C.refuses(x, NO, "26: NO before FULL", () -> x.guard(1, 4));
        C.refuses(x, BAD, "26: BAD before FULL", () -> x.guard(1, 10));
        PalletNets y = Checks.net("p3;t0 0>;");
        y.goes(0);
        C.due("26: home counts, not the present marking", y.guard(1, 3), 0);
        PalletNets z = Checks.net("p3;t0>0;");
        z.loses(0);
        z.goes(0);
        C.refuses(z, NO, "26: home without the lost token", () -> z.guard(1, 3));
        PalletNets w = Checks.worn();
        w.guard(1, 1);
        C.due("26: lost tokens stay", w.of(1, 2), 1);
        C.due("26: the present marking stays", w.of(2, 1), 1);
        w.back();
        C.due("26: back()", Checks.state(w), Checks.state(Checks.worn()));
    }

    private static void guards() {
        C.says("27", "For each minimal siphon, in ascending order, that is not safe, has a token in the home marking, and is not the "
            + "set of a guard, adds a guard with this set and the least number 1, as long as there are fewer than 5 guards.");
        PalletNets x = Checks.net(DRAINS);
        C.due("27: guards() up to 5", x.guards(), 5);
        for (int g = 0; g < 5; g++) {
            C.due("27: places of guard " + g, x.guardOf(g, 0), 1 << g);
            C.due("27: least number of guard " + g, x.guardOf(g, 1), 1);
        }
        C.due("27: guards() again", x.guards(), 0);
        x.drop(1);
        C.due("27: guards() for the one that went", x.guards(), 1);
        C.due("27: it comes last", x.guardOf(4, 0), 2);
        // 0 and 1 turn into each other, and may leave; 2 may leave: the smaller siphon has the greater mask
        PalletNets pair = Checks.net("p1;p1;p1;t0 0>1;t0 1>0;t0 0>;t0 2>;");
        C.due("27: a siphon of one place and one of two", pair.guards(), 2);
        C.due("27: that of one place first", pair.guardOf(0, 0), 4);
        C.due("27: then that of two", pair.guardOf(1, 0), 3);
        PalletNets y = Checks.net("p1;p0;p2;p3;t0 0>;t0 1>;t0 2>;");
        y.guard(4, 2);
        y.loses(0);
        C.due("27: not without a token at home, guarded, or safe", y.guards(), 0);
        y.returns(0);
        y.goes(0);
        C.due("27: the token at home counts, not the present one", y.guards(), 1);
        C.due("27: its places", y.guardOf(1, 0), 1);
        PalletNets wider = Checks.net("p1;p1;t0 0>;");
        wider.guard(3, 1);
        C.due("27: a guard for more places is none for these", wider.guards(), 1);
        PalletNets last = Checks.net(DRAINS);
        last.guards();
        last.drop(4);
        C.due("27: the guard that was dropped last is none", last.guards(), 1);
        C.due("27: its places", last.guardOf(4, 0), 16);
        // place 1 alone is no siphon any more once a step fills it
        PalletNets fewer = Checks.net("p1;p1;t0 0>;t0 1>;");
        C.due("27: two siphons", fewer.stucks(), 2);
        Checks.read(fewer, "t0>1;");
        C.due("27: one siphon", fewer.guards(), 1);
        C.due("27: its places", fewer.guardOf(0, 0), 1);
        C.says("27", "This is one change.");
        PalletNets z = Checks.net(DRAINS);
        z.guards();
        C.due("27: five guards are one change", z.told(8), 2);
        z.guards();
        C.due("27: none is a change all the same", z.told(8), 3);
        C.due("27: back()", z.back(), 2);
        C.due("27: back()", z.back(), 1);
        C.due("27: none of the five is left", z.told(6), 0);
        C.says("27", "Returns how many guards have been added.");
        C.due("27: of nothing", new PalletNets().guards(), 0);
        C.due("27: one", Checks.net("p1;t0 0>;").guards(), 1);
        PalletNets four = Checks.net(DRAINS);
        for (int g = 0; g < 4; g++) {
            four.guard(127, 1);
        }
        C.due("27: one where there is room for one", four.guards(), 1);
        C.due("27: none where there is room for none", four.guards(), 0);
    }

    private static void drop() {
        PalletNets x = Checks.net("p9;p9;p9;g0/1;g1/2;g2/3;");
        C.says("28", "Returns how many guards are left; BAD.");
        C.refuses(x, BAD, "28: drop(3)", () -> x.drop(3));
        C.refuses(x, BAD, "28: drop(-1)", () -> x.drop(-1));
        C.due("28: drop(1)", x.drop(1), 2);
        C.due("28: drop(1)", x.drop(1), 1);
        C.due("28: drop(0)", x.drop(0), 0);
        C.refuses(x, BAD, "28: drop(0) of none", () -> x.drop(0));
        C.says("28", "Removes a guard; the numbers of those behind it decrease by 1.");
        for (int g = 0; g < 5; g++) {
            PalletNets five = Checks.net("p9;p9;p9;p9;p9;g0/1;g1/2;g2/3;g3/4;g4/5;");
            C.due("28: drop(" + g + ") of five", five.drop(g), 4);
            for (int i = 0; i < 4; i++) {
                int was = i < g ? i : i + 1;
                C.due("28: places of " + i + " after drop(" + g + ")", five.guardOf(i, 0), 1 << was);
                C.due("28: least number of " + i + " after drop(" + g + ")", five.guardOf(i, 1), was + 1);
            }
            C.refuses(five, BAD, "28: the fifth is gone", () -> five.guardOf(4, 0));
        }
        PalletNets barred = Checks.net("p1;t0 0>;g0/1;");
        C.due("28: barred by the guard", barred.can(0), 3);
        barred.drop(0);
        C.due("28: not once it is dropped", barred.can(0), 0);
        C.says("28", "This is a change.");
        C.due("28: kept", x.told(8), 4);
        x.back();
        x.back();
        C.due("28: back() twice", x.guardOf(1, 1), 3);
        PalletNets w = Checks.worn();
        w.drop(0);
        C.due("28: lost tokens stay", w.of(1, 2), 1);
        C.due("28: the present marking stays", w.of(2, 1), 1);
    }

    private static void guardOf() {
        PalletNets x = Checks.net("p3;p0;p15;t1 0>1;t1 0 0>1;t1 1>0;t1 0>2;t1 0>0;t1 0 0 1>;");
        x.guard(1, 2);
        x.guard(7, 9);
        C.says("29", "Returns a property of a guard.");
        C.due("29: guardOf(0, 0)", x.guardOf(0, 0), 1);
        C.says("29", "0: its places; 1: its least number; 2: the number of their tokens in the present marking;");
        C.due("29: guardOf(0, 1)", x.guardOf(0, 1), 2);
        C.due("29: guardOf(0, 2)", x.guardOf(0, 2), 3);
        C.says("29", "3: the steps that it bars in the present marking, of those that fulfill the conditions (1) and (2) "
            + "for going;");
        C.due("29: bars step 1 alone", x.guardOf(0, 3), 2);
        x.goes(0);
        C.due("29: guardOf(0, 2) of the present marking", x.guardOf(0, 2), 2);
        // step 3 would give place 2 a sixteenth token; step 4 changes nothing; step 5 takes two from place 0
        C.due("29: bars steps 0, 1 and 5", x.guardOf(0, 3), 35);
        C.due("29: the other bars none", x.guardOf(1, 3), 0);
        x.goes(2);
        x.guard(3, 3);
        C.due("29: a step that another guard bars too", x.guardOf(0, 3), 2);
        C.due("29: a step that another guard bars too", x.guardOf(2, 3), 2);
        C.says("29", "Returns the property; BAD.");
        PalletNets below = Checks.net("p3;p0;t0 0>0;t0 0>;t0>0;t0>0 0;g0/3;");
        below.loses(0);
        below.loses(0);
        // place 0 has one token of at least three: only fewer than these is barred
        C.due("29: of four steps that leave too few, the one that leaves fewer than before", below.guardOf(0, 3), 2);
        C.refuses(x, BAD, "29: guardOf(3, 0)", () -> x.guardOf(3, 0));
        C.refuses(x, BAD, "29: guardOf(-1, 0)", () -> x.guardOf(-1, 0));
        C.refuses(x, BAD, "29: guardOf(0, 5)", () -> x.guardOf(0, 5));
        C.refuses(x, BAD, "29: guardOf(0, -1)", () -> x.guardOf(0, -1));
    }

    private static void guardNeeded() {
        C.says("29", "4: 1 if it is not needed (no marking of the search from the home marking, as it would be without "
            + "this guard, has fewer tokens in its places than its least number), else 0");
        PalletNets x = Checks.net("p3;p0;t1 0>1;t1 1>0;g0/2;g01/3;g0/1;");
        C.due("29: the first is needed, for the third allows 1", x.guardOf(0, 4), 0);
        C.due("29: the sum of both is 3 anyway", x.guardOf(1, 4), 1);
        C.due("29: the first is stricter than the third", x.guardOf(2, 4), 1);
        x.drop(0);
        C.due("29: without the first the other is needed", x.guardOf(1, 4), 0);
        x.loses(0);
        C.due("29: home itself has too few", x.guardOf(0, 4), 0);
        PalletNets gone = Checks.net("p2;p0;p1;t0 0>1;t0 0 0 2>0 0 1;g2/1;");
        C.due("29: from home the token of place 2 may go", gone.guardOf(0, 4), 0);
        gone.goes(0);
        C.due("29: from home, not from where it may not any more", gone.guardOf(0, 4), 0);
        PalletNets just = Checks.net("p3;t0 0 0>;g0/1;");
        C.due("29: just its least number is enough", just.guardOf(0, 4), 1);
        C.due("29: one less is not", Checks.net("p2;t0 0 0>;g0/1;").guardOf(0, 4), 0);
        PalletNets second = Checks.net("p1;t0 0>;g0/1;");
        C.due("29: too few in the second marking alone", second.guardOf(0, 4), 0);
    }
}
