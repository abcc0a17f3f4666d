/** Promises 13 to 19: runs. */
public final class RunTest {
    private static final int BAD = PalletNets.BAD, NO = PalletNets.NO;
    private static final Checks C = new Checks("RunTest");

    /** Step 0 goes out, step 1 comes back, step 2 leads where nothing goes on. */
    private static final String SINK = "p1;p0;p0;t1 0>1;t1 1>0;t1 0>2;";

    public static void main(String[] args) {
        can();
        canWithGuards();
        canWithKeeper();
        goes();
        runs();
        restarts();
        loses();
        returns();
        keeper();
        C.end();
    }

    private static void can() {
        PalletNets x = Checks.net("p2;p14;p1;t1 0 0>;t1 2 2>;t1>1;t1>1 1;t1 1>1 1;t1 1 1>1 1;t1 2 2>1 1;");
        C.says("13", "Tells whether a step is allowed in the present marking.");
        C.due("13: just enough", x.can(0), 0);
        C.due("13: one too few", x.can(1), 1);
        C.due("13: up to 15", x.can(2), 0);
        C.due("13: up to 16", x.can(3), 2);
        C.due("13: 14 less 1 and 2 more", x.can(4), 0);
        C.due("13: what is taken makes room", x.can(5), 0);
        C.says("13", "Returns 0 if it is allowed; otherwise the first of these that applies: 1, 2, 3: it cannot go "
            + "because of the condition (1), (2), (3) for going; 4: the keeper does not allow it; BAD.");
        C.due("13: (1) comes before (2)", x.can(6), 1);
        x.start(1, 15);
        C.due("13: 15 less 1 and 2 more", x.can(4), 2);
        C.due("13: 15 less 2 and 2 more", x.can(5), 0);
        C.refuses(x, BAD, "13: can(7)", () -> x.can(7));
        C.refuses(x, BAD, "13: can(-1)", () -> x.can(-1));
        C.refuses(x, BAD, "13: can(MAX)", () -> x.can(Integer.MAX_VALUE));
        PalletNets empty = Checks.net("t1>;");
        C.due("13: a step of a net without places", empty.can(0), 0);
    }

    private static void canWithGuards() {
        PalletNets x = Checks.net("p3;p0;p15;t1 0>1;t1 0>0;t1 1>0;t1 0>2;t1 1 1>1;");
        x.guard(1, 2);
        C.due("13: down to the least number", x.can(0), 0);
        C.due("13: (2) comes before (3)", x.can(3), 2);
        x.goes(0);
        C.due("13: below the least number", x.can(0), 3);
        C.due("13: no fewer than before", x.can(1), 0);
        C.due("13: more than before", x.can(2), 0);
        C.due("13: (1) comes before (3)", x.can(4), 1);
        x.loses(0);
        C.due("13: below it already, and fewer than before", x.can(0), 3);
        C.due("13: below it already, but not fewer", x.can(1), 0);
        C.due("13: below it already, but more", x.can(2), 0);
        PalletNets y = Checks.net("p1;p1;p0;t1 0>1;t1 0>2;g01/2;");
        C.due("13: within the guard's places", y.can(0), 0);
        C.due("13: out of the guard's places", y.can(1), 3);
        PalletNets z = Checks.net("p5;t1 0>;g0/1;g0/5;");
        C.due("13: the second of two guards", z.can(0), 3);
    }

    private static void canWithKeeper() {
        PalletNets x = Checks.net(SINK);
        C.due("13: keeper off", x.can(2), 0);
        x.keeper(1);
        C.due("13: keeper on, no way home", x.can(2), 4);
        C.due("13: keeper on, a way home", x.can(0), 0);
        C.due("13: (1) comes before the keeper", x.can(1), 1);
        // without its token home is (0, 0, 0), which step 1 cannot reach from (0, 1, 0)
        PalletNets y = Checks.net("p1;p0;t1 0>1;t1 1>0;");
        y.start(0, 2);
        y.keeper(1);
        y.goes(0);
        y.loses(0);
        C.due("13: home is that of the tokens left", y.of(0, 0) - y.of(0, 2), 1);
        C.due("13: home again after step 1", y.can(1), 0);
        // the guard shuts the way home: at (0, 1, 1) step 1 would take place 2 below its least number
        PalletNets z = Checks.net("p1;p0;p1;t1 0>1;t1 1 2>0;t1 0>0 2;");
        z.guard(4, 1);
        z.keeper(1);
        C.due("13: guards hold in the keeper's search", z.can(0), 4);
        z.drop(0);
        C.due("13: and not once they are dropped", z.can(0), 0);
        // a field of 16 by 16 markings: from its far corner home is past the 200th
        PalletNets field = Checks.net("p0;p0;t0>0;t0>1;t0 0>;t0 1>;");
        field.keeper(1);
        C.due("13: home is near", field.can(0), 0);
        field.keeper(0);
        for (int i = 0; i < 29; i++) {
            field.goes(i < 15 ? 0 : 1);
        }
        C.due("13: keeper off in the far corner", field.can(1), 0);
        field.keeper(1);
        C.due("13: the keeper's search has 200 markings at most", field.can(1), 4);
        C.due("13: a step without a change of the marking", Checks.net("p0;t1>;").can(0), 0);
    }

    private static void goes() {
        PalletNets x = Checks.net(SINK);
        C.says("14", "Lets a step go, by which the present marking changes. This is a change.");
        C.due("14: goes(0)", x.goes(0), 1);
        C.due("14: place 0 then", x.of(0, 1), 0);
        C.due("14: place 1 then", x.of(1, 1), 1);
        C.due("14: is a change", x.told(8), 2);
        C.says("14", "Returns how many steps can go in the present marking then (whether the keeper allows them or not); "
            + "BAD; NO if the step is not allowed.");
        C.refuses(x, NO, "14: goes(0), not enough tokens", () -> x.goes(0));
        C.due("14: goes(1)", x.goes(1), 2);
        x.keeper(1);
        C.refuses(x, NO, "14: goes(2), the keeper", () -> x.goes(2));
        C.due("14: goes(0), keeper on", x.goes(0), 1);
        C.due("14: steps that the keeper bars are counted", x.goes(1), 2);
        C.refuses(x, BAD, "14: goes(3)", () -> x.goes(3));
        C.refuses(x, BAD, "14: goes(-1)", () -> x.goes(-1));
        C.due("14: back()", x.back(), 4);
        C.due("14: the marking is back", x.of(1, 1), 1);
        PalletNets y = Checks.net("p15;p2;t1>0;t1 1>;");
        C.refuses(y, NO, "14: goes(0), more than 15", () -> y.goes(0));
        y.guard(2, 2);
        C.refuses(y, NO, "14: goes(1), the guard", () -> y.goes(1));
        PalletNets z = Checks.net("p3;t1 0>;t1 0>;g0/2;");
        C.due("14: steps that a guard bars are not counted", z.goes(0), 0);
    }

    private static void runs() {
        String fan = "p9;p0;p0;p0;t5 0>1;t2 0>2;t2 0>3;";
        C.says("15", "Lets allowed steps go one after the other, until n have gone, or no step is allowed. This is one change.");
        for (int n = 1; n <= 8; n++) {
            for (int tokens = n - 1; tokens <= n + 1; tokens++) {
                PalletNets x = Checks.net("p" + tokens + ";p0;t1 0>1;");
                int due = Math.min(n, tokens);
                C.due("15: runs(" + n + ", 0) with " + tokens + " tokens", x.runs(n, 0), due);
                C.due("15: so many have gone", x.of(1, 1), due);
                C.due("15: one change", x.told(8), 2);
                C.due("15: back()", x.back(), 1);
                C.due("15: back(): tokens", x.of(0, 1), tokens);
            }
        }
        PalletNets kept = Checks.net(SINK);
        C.due("15: runs(8, 2) into the sink", kept.runs(8, 2), 1);
        kept.back();
        kept.keeper(1);
        C.due("15: runs(8, 2) under the keeper", kept.runs(8, 2), 8);
        C.due("15: runs(7, 2) under the keeper", kept.runs(7, 2), 7);
        C.due("15: ends outside", kept.of(1, 1), 1);
        PalletNets guarded = Checks.net("p9;t1 0>;g0/4;");
        C.due("15: runs(8, 0) down to the guard", guarded.runs(8, 0), 5);
        C.due("15: runs(8, 1) of nothing", new PalletNets().runs(8, 1), 0);
        C.says("15", "which of the allowed steps goes each time, 0: the one with the lowest number; 1: the one with the smallest cost, "
            + "of several the one with the lowest number; 2: the one with the highest number");
        for (int by = 0; by <= 2; by++) {
            PalletNets x = Checks.net(fan);
            C.due("15: runs(2, " + by + ")", x.runs(2, by), 2);
            C.due("15: where the tokens are", x.of(by + 1, 1), 2);
        }
        PalletNets cheap = Checks.net("p9;p0;p0;t5 0>1;t3 0>2;");
        cheap.runs(1, 1);
        C.due("15: the cheaper step", cheap.of(2, 1), 1);
        cheap.cost(0, 3);
        cheap.runs(1, 1);
        C.due("15: of equal ones the lowest", cheap.of(1, 1), 1);
        cheap.cost(0, 0);
        cheap.cost(1, 9);
        cheap.runs(1, 1);
        C.due("15: a cost of 0 is less than any other", cheap.of(1, 1), 2);
        // the cheapest, the lowest and the highest step cannot go
        PalletNets middle = Checks.net("p9;p0;p0;t0 2>0;t5 0>1;t4 0>2;t0 2 2>0;");
        C.due("15: the lowest that is allowed", middle.runs(1, 0) + middle.of(1, 1), 2);
        middle.back();
        C.due("15: the cheapest that is allowed", middle.runs(1, 1) + middle.of(2, 1), 2);
        middle.back();
        C.due("15: the highest that is allowed", middle.runs(1, 2) + middle.of(2, 1), 2);
        C.says("15", "Returns how many steps have gone; BAD.");
        for (int by = 0; by <= 2; by++) {
            PalletNets x = Checks.net(fan);
            C.due("15: runs(1, " + by + ")", x.runs(1, by), 1);
            C.due("15: runs(7, " + by + ")", x.runs(7, by), 7);
            C.due("15: runs(8, " + by + ") to the end", x.runs(8, by), 1);
            C.due("15: runs(8, " + by + ") with none", x.runs(8, by), 0);
            C.due("15: is a change all the same", x.told(8), 5);
        }
        PalletNets x = Checks.net(fan);
        C.refuses(x, BAD, "15: runs(0, 0)", () -> x.runs(0, 0));
        C.refuses(x, BAD, "15: runs(9, 0)", () -> x.runs(9, 0));
        C.refuses(x, BAD, "15: runs(1, -1)", () -> x.runs(1, -1));
        C.refuses(x, BAD, "15: runs(1, 3)", () -> x.runs(1, 3));
    }

    private static void restarts() {
        C.says("16", "Makes the home marking the present one. This is a change.");
        PalletNets x = Checks.worn();
        C.due("16: restarts()", x.restarts(), 4);
        C.due("16: place 0", x.of(0, 1), 3);
        C.due("16: place 1, without its lost token", x.of(1, 1), 1);
        C.due("16: place 2", x.of(2, 1), 0);
        C.due("16: guards stay", x.told(6), 1);
        C.due("16: lost tokens stay", x.of(1, 2), 1);
        C.due("16: the keeper stays", x.told(7), 1);
        C.due("16: is a change", x.back(), 4);
        C.due("16: back()", Checks.state(x), Checks.state(Checks.worn()));
        C.says("16", "Returns the number of all tokens then.");
        C.due("16: restarts() of nothing", new PalletNets().restarts(), 0);
        C.due("16: restarts() of as many as there can be", Checks.net("p15;".repeat(10)).restarts(), 150);
        PalletNets moved = Checks.net("p5;p0;t0 0>1 1;");
        moved.runs(3, 0);
        moved.loses(0);
        C.due("16: restarts() without the lost one", moved.restarts(), 4);
    }

    private static void loses() {
        PalletNets x = Checks.net("p2;p0;t1 0>1;t1 1>0;t1>0;");
        C.says("17", "Loses a token of a place: it has one token less in the present marking, and one lost token more.");
        C.due("17: loses(0)", x.loses(0), 1);
        C.due("17: of(0, 1)", x.of(0, 1), 1);
        C.due("17: of(0, 2)", x.of(0, 2), 1);
        C.due("17: of(0, 0)", x.of(0, 0), 2);
        C.says("17", "Returns its tokens in the present marking then; BAD; NO if it has none there, or has as many lost "
            + "tokens as its start.");
        C.refuses(x, NO, "17: loses(1), no token", () -> x.loses(1));
        x.goes(0);
        C.refuses(x, NO, "17: loses(1), a token, but a start of 0", () -> x.loses(1));
        C.refuses(x, NO, "17: loses(0), none there", () -> x.loses(0));
        x.goes(1);
        C.due("17: loses(0)", x.loses(0), 0);
        x.goes(2);
        C.refuses(x, NO, "17: loses(0), as many lost as its start", () -> x.loses(0));
        C.refuses(x, BAD, "17: loses(2)", () -> x.loses(2));
        C.refuses(x, BAD, "17: loses(-1)", () -> x.loses(-1));
        C.says("17", "This is a change.");
        PalletNets y = Checks.worn();
        C.due("17: loses(0)", y.loses(0), 1);
        C.changedOnly(y, "17: loses(0)");
    }

    private static void returns() {
        PalletNets x = Checks.net("p15;p0;t1>0;");
        C.says("18", "Returns its lost tokens then; BAD; NO if it has no lost tokens, or has 15 tokens in the present "
            + "marking.");
        C.refuses(x, NO, "18: returns(0), none lost", () -> x.returns(0));
        x.loses(0);
        x.loses(0);
        C.says("18", "Brings a lost token of a place back: it has one token more in the present marking, and one lost "
            + "token less.");
        C.due("18: returns(0)", x.returns(0), 1);
        C.due("18: of(0, 1)", x.of(0, 1), 14);
        C.due("18: of(0, 2)", x.of(0, 2), 1);
        x.goes(0);
        C.refuses(x, NO, "18: returns(0), 15 there", () -> x.returns(0));
        x.back();
        C.due("18: returns(0) up to 15", x.returns(0), 0);
        C.refuses(x, NO, "18: returns(1)", () -> x.returns(1));
        C.refuses(x, BAD, "18: returns(2)", () -> x.returns(2));
        C.refuses(x, BAD, "18: returns(-1)", () -> x.returns(-1));
        C.says("18", "This is a change.");
        PalletNets y = Checks.worn();
        C.due("18: returns(1)", y.returns(1), 0);
        C.due("18: guards stay", y.told(6), 1);
        C.due("18: the present marking stays", y.of(2, 1), 1);
        C.due("18: is a change", y.back(), 4);
        C.due("18: back()", Checks.state(y), Checks.state(Checks.worn()));
    }

    private static void keeper() {
        PalletNets x = new PalletNets();
        C.says("19", "Turns the keeper on or off.");
        C.due("19: keeper(1)", x.keeper(1), 0);
        C.due("19: told(7)", x.told(7), 1);
        C.says("19", "Returns 1 if it was on, else 0; BAD.");
        C.due("19: keeper(1)", x.keeper(1), 1);
        C.due("19: is a change, even if nothing differs", x.told(8), 2);
        C.due("19: keeper(0)", x.keeper(0), 1);
        C.due("19: keeper(0)", x.keeper(0), 0);
        C.due("19: told(7)", x.told(7), 0);
        C.refuses(x, BAD, "19: keeper(2)", () -> x.keeper(2));
        C.refuses(x, BAD, "19: keeper(-1)", () -> x.keeper(-1));
        C.says("19", "This is a change.");
        PalletNets y = Checks.worn();
        y.keeper(0);
        C.changedOnly(y, "19: keeper(0)");
    }
}
