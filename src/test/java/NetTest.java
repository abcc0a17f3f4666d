/** Promises 1 to 12: the net. */
public final class NetTest {
    private static final int BAD = PalletNets.BAD, NO = PalletNets.NO, FULL = PalletNets.FULL;
    private static final Checks C = new Checks("NetTest");

    public static void main(String[] args) {
        newObject();
        place();
        step();
        arc();
        start();
        cost();
        line();
        draw();
        anew();
        of();
        arcOf();
        stepOf();
        C.end();
    }

    private static void newObject() {
        C.says("1", "Creates a workbench without places and steps, with an empty text; nothing can be undone, and "
            + "nothing has been counted.");
        PalletNets x = new PalletNets();
        for (int what = 0; what <= 8; what++) {
            C.due("1: told(" + what + ")", x.told(what), 0);
        }
        C.due("1: sums()", x.sums(), 0);
        C.due("1: stucks()", x.stucks(), 0);
        C.due("1: all(0)", x.all(0), 1);
        C.due("1: all(1)", x.all(1), 1);
        C.due("1: all(2)", x.all(2), 1);
        C.due("1: all(3)", x.all(3), 0);
        C.due("1: all(4)", x.all(4), 0);
        C.due("1: all(5)", x.all(5), 0);
        C.due("1: found(0, 0)", x.found(0, 0), 0);
        C.due("1: home(0)", x.home(0), 0);
        C.due("1: reads()", x.reads(), -10);
        C.due("1: clear()", x.clear(), 0);
        C.refuses(x, BAD, "1: of(0, 0)", () -> x.of(0, 0));
        C.refuses(x, BAD, "1: can(0)", () -> x.can(0));
        C.refuses(x, BAD, "1: guardOf(0, 0)", () -> x.guardOf(0, 0));
        C.refuses(x, NO, "1: back()", x::back);
    }

    private static void place() {
        C.says("2", "Returns the number of the place; BAD; FULL if there are 10 places.");
        PalletNets x = new PalletNets();
        C.refuses(x, BAD, "2: place(-1)", () -> x.place(-1));
        C.refuses(x, BAD, "2: place(16)", () -> x.place(16));
        C.refuses(x, BAD, "2: place(MIN)", () -> x.place(Integer.MIN_VALUE));
        C.says("2", "Adds a place.");
        for (int p = 0; p < 10; p++) {
            int v = p == 9 ? 15 : p;
            C.due("2: place " + p, x.place(v), p);
            C.due("2: its start", x.of(p, 0), v);
            C.due("2: its tokens", x.of(p, 1), v);
            C.due("2: told(8)", x.told(8), Math.min(5, p + 1));
        }
        C.refuses(x, FULL, "2: place(0), an eleventh", () -> x.place(0));
        C.refuses(x, BAD, "2: place(16), an eleventh", () -> x.place(16));
        C.says("2", "Renews the net.");
        PalletNets y = Checks.worn();
        C.due("2: place(4)", y.place(4), 3);
        C.renewed(y, "2: place(4)", 1);
    }

    private static void step() {
        C.says("3", "Returns the number of the step; BAD; FULL if there are 8 steps.");
        PalletNets x = Checks.net("p1;p2;");
        C.refuses(x, BAD, "3: step(-1)", () -> x.step(-1));
        C.refuses(x, BAD, "3: step(10)", () -> x.step(10));
        C.says("3", "Adds a step, which takes and gives nothing.");
        for (int t = 0; t < 8; t++) {
            int c = t == 7 ? 9 : t;
            C.due("3: step " + t, x.step(c), t);
            C.due("3: its cost", x.stepOf(t, 0), c);
            C.due("3: it takes nothing", x.stepOf(t, 1), 0);
            C.due("3: it gives nothing", x.stepOf(t, 2), 0);
        }
        C.refuses(x, FULL, "3: step(0), a ninth", () -> x.step(0));
        C.refuses(x, BAD, "3: step(10), a ninth", () -> x.step(10));
        C.says("3", "Renews the net.");
        PalletNets y = Checks.worn();
        C.due("3: step(0)", y.step(0), 1);
        C.renewed(y, "3: step(0)", 1);
        PalletNets z = Checks.net("p1;t5 0>0;");
        z.anew();
        z.place(1);
        C.due("3: step(1) after anew()", z.step(1), 0);
        C.due("3: it takes nothing of the old step", z.stepOf(0, 1), 0);
        C.due("3: it gives nothing of the old step", z.stepOf(0, 2), 0);
    }

    private static void arc() {
        C.says("4", "Sets how many tokens a step takes from a place, or gives to it.");
        PalletNets x = Checks.net("p1;p2;t1>;t1>;");
        C.due("4: arc(1, 0, 0, 2)", x.arc(1, 0, 0, 2), 0);
        C.due("4: arc(1, 0, 1, 1)", x.arc(1, 0, 1, 1), 0);
        C.due("4: arc(1, 1, 1, 2)", x.arc(1, 1, 1, 2), 0);
        C.due("4: takes", x.arcOf(1, 0, 0), 2);
        C.due("4: gives", x.arcOf(1, 0, 1), 1);
        C.due("4: gives to the other", x.arcOf(1, 1, 1), 2);
        C.due("4: takes from the other", x.arcOf(1, 1, 0), 0);
        C.due("4: the other step", x.stepOf(0, 1) + x.stepOf(0, 2), 0);
        C.says("4", "Returns the previous number; BAD.");
        C.due("4: arc(1, 0, 0, 1)", x.arc(1, 0, 0, 1), 2);
        C.due("4: arc(1, 0, 0, 0)", x.arc(1, 0, 0, 0), 1);
        C.due("4: takes", x.arcOf(1, 0, 0), 0);
        C.refuses(x, BAD, "4: arc(2, 0, 0, 1)", () -> x.arc(2, 0, 0, 1));
        C.refuses(x, BAD, "4: arc(-1, 0, 0, 1)", () -> x.arc(-1, 0, 0, 1));
        C.refuses(x, BAD, "4: arc(0, 2, 0, 1)", () -> x.arc(0, 2, 0, 1));
        C.refuses(x, BAD, "4: arc(0, -1, 0, 1)", () -> x.arc(0, -1, 0, 1));
        C.refuses(x, BAD, "4: arc(0, 0, 2, 1)", () -> x.arc(0, 0, 2, 1));
        C.refuses(x, BAD, "4: arc(0, 0, -1, 1)", () -> x.arc(0, 0, -1, 1));
        C.refuses(x, BAD, "4: arc(0, 0, 0, 3)", () -> x.arc(0, 0, 0, 3));
        C.refuses(x, BAD, "4: arc(0, 0, 0, -1)", () -> x.arc(0, 0, 0, -1));
        C.says("4", "Renews the net.");
        PalletNets y = Checks.worn();
        C.due("4: arc(0, 0, 0, 1), the same", y.arc(0, 0, 0, 1), 1);
        C.renewed(y, "4: arc(0, 0, 0, 1)", 1);
    }

    private static void start() {
        C.says("5", "Sets the start of a place.");
        PalletNets x = Checks.net("p1;p2;");
        C.due("5: start(1, 15)", x.start(1, 15), 2);
        C.says("5", "Returns the previous start; BAD.");
        C.due("5: start(1, 0)", x.start(1, 0), 15);
        C.due("5: start(1, 7)", x.start(1, 7), 0);
        C.due("5: of(1, 0)", x.of(1, 0), 7);
        C.due("5: of(0, 0)", x.of(0, 0), 1);
        PalletNets moved = Checks.worn();
        moved.start(1, 9);
        C.due("5: the other starts stay, wherever the tokens are", moved.found(0, 0), 0x093);
        C.refuses(x, BAD, "5: start(2, 1)", () -> x.start(2, 1));
        C.refuses(x, BAD, "5: start(-1, 1)", () -> x.start(-1, 1));
        C.refuses(x, BAD, "5: start(0, 16)", () -> x.start(0, 16));
        C.refuses(x, BAD, "5: start(0, -1)", () -> x.start(0, -1));
        C.says("5", "Renews the net.");
        PalletNets y = Checks.worn();
        C.due("5: start(1, 2), the same", y.start(1, 2), 2);
        C.renewed(y, "5: start(1, 2)", 1);
    }

    private static void cost() {
        C.says("6", "Sets the cost of a step.");
        PalletNets x = Checks.net("t1>;t2>;");
        C.due("6: cost(1, 9)", x.cost(1, 9), 2);
        C.says("6", "Returns the previous cost; BAD.");
        C.due("6: cost(1, 0)", x.cost(1, 0), 9);
        C.due("6: stepOf(1, 0)", x.stepOf(1, 0), 0);
        C.due("6: stepOf(0, 0)", x.stepOf(0, 0), 1);
        C.refuses(x, BAD, "6: cost(2, 1)", () -> x.cost(2, 1));
        C.refuses(x, BAD, "6: cost(-1, 1)", () -> x.cost(-1, 1));
        C.refuses(x, BAD, "6: cost(0, 10)", () -> x.cost(0, 10));
        C.refuses(x, BAD, "6: cost(0, -1)", () -> x.cost(0, -1));
        C.says("6", "This is a change (it does not renew the net).");
        PalletNets y = Checks.worn();
        C.due("6: cost(0, 1), the same", y.cost(0, 1), 1);
        C.changedOnly(y, "6: cost(0, 1)");
    }

    private static void line() {
        C.says("7", "Adds a line of k pallets through two machines.");
        PalletNets x = Checks.net("p1;p2;");
        C.due("7: line(9, 1, 0)", x.line(9, 1, 0), 2);
        C.due("7: places", x.told(4), 5);
        C.due("7: steps", x.told(5), 3);
        int[] starts = {1, 2, 9, 0, 0};
        for (int p = 0; p < 5; p++) {
            C.due("7: start of " + p, x.of(p, 0), starts[p]);
        }
        int[][] takes = {{0, 1, 1, 0, 0}, {1, 0, 0, 1, 0}, {0, 0, 0, 0, 1}};
        int[][] gives = {{0, 0, 0, 1, 0}, {0, 1, 0, 0, 1}, {1, 0, 1, 0, 0}};
        for (int t = 0; t < 3; t++) {
            C.due("7: cost of " + t, x.stepOf(t, 0), 1);
            for (int p = 0; p < 5; p++) {
                C.due("7: arcOf(" + t + ", " + p + ", 0)", x.arcOf(t, p, 0), takes[t][p]);
                C.due("7: arcOf(" + t + ", " + p + ", 1)", x.arcOf(t, p, 1), gives[t][p]);
            }
        }
        PalletNets straight = Checks.net("p1;p2;p3;");
        C.due("7: line(1, 1, 2)", straight.line(1, 1, 2), 3);
        C.due("7: its first step takes from the first machine", straight.arcOf(0, 1, 0), 1);
        C.due("7: its second step takes from the second", straight.arcOf(1, 2, 0), 1);
        C.due("7: and gives to the first", straight.arcOf(1, 1, 1), 1);
        C.due("7: its last step gives to the second", straight.arcOf(2, 2, 1), 1);
        C.due("7: line(1, 0, 0)", x.line(1, 0, 0), 5);
        C.due("7: one machine twice, takes", x.arcOf(4, 0, 0), 1);
        C.due("7: one machine twice, gives", x.arcOf(4, 0, 1), 1);
        C.says("7", "Returns the number of the store; BAD; FULL if there would be more than 10 places or more than 8 "
            + "steps.");
        C.refuses(x, FULL, "7: line(1, 0, 0), steps are full", () -> x.line(1, 0, 0));
        C.refuses(x, BAD, "7: line(0, 0, 0)", () -> x.line(0, 0, 0));
        C.refuses(x, BAD, "7: line(10, 0, 0)", () -> x.line(10, 0, 0));
        C.refuses(x, BAD, "7: line(1, 8, 0)", () -> x.line(1, 8, 0));
        C.refuses(x, BAD, "7: line(1, 0, 8)", () -> x.line(1, 0, 8));
        C.refuses(x, BAD, "7: line(1, -1, 0)", () -> x.line(1, -1, 0));
        C.refuses(x, BAD, "7: line(1, 0, -1)", () -> x.line(1, 0, -1));
        PalletNets seven = Checks.net("p1;p1;p1;p1;p1;p1;p1;");
        C.due("7: line(1, 0, 6) up to 10 places", seven.line(1, 0, 6), 7);
        PalletNets eight = Checks.net("p1;p1;p1;p1;p1;p1;p1;p1;");
        C.refuses(eight, FULL, "7: line(1, 0, 7) up to 11 places", () -> eight.line(1, 0, 7));
        PalletNets five = Checks.net("p1;t0>;t0>;t0>;t0>;t0>;");
        C.due("7: line(1, 0, 0) up to 8 steps", five.line(1, 0, 0), 1);
        PalletNets six = Checks.net("p1;t0>;t0>;t0>;t0>;t0>;t0>;");
        C.refuses(six, FULL, "7: line(1, 0, 0) up to 9 steps", () -> six.line(1, 0, 0));
        C.says("7", "Renews the net.");
        PalletNets y = Checks.worn();
        C.due("7: line(1, 0, 1)", y.line(1, 0, 1), 3);
        C.renewed(y, "7: line(1, 0, 1)", 1);
    }

    /** Each step as "cost takes gives", a digit for each place. */
    private static void drawn(int seed, String starts, String... steps) {
        PalletNets x = Checks.net("p15;p15;p15;t9 0>1;");
        String call = "8: draw(" + seed + ", " + starts.length() + ", " + steps.length + ")";
        C.due(call, x.draw(seed, starts.length(), steps.length), x.all(0));
        C.due(call + ": places", x.told(4), starts.length());
        C.due(call + ": steps", x.told(5), steps.length);
        for (int p = 0; p < starts.length(); p++) {
            C.due(call + ": start of " + p, x.of(p, 0), starts.charAt(p) - '0');
        }
        for (int t = 0; t < steps.length; t++) {
            String[] parts = steps[t].split(" ");
            C.due(call + ": cost of " + t, x.stepOf(t, 0), Integer.parseInt(parts[0]));
            for (int p = 0; p < starts.length(); p++) {
                C.due(call + ": arcOf(" + t + ", " + p + ", 0)", x.arcOf(t, p, 0), parts[1].charAt(p) - '0');
                C.due(call + ": arcOf(" + t + ", " + p + ", 1)", x.arcOf(t, p, 1), parts[2].charAt(p) - '0');
            }
        }
    }

    private static void draw() {
        C.says("8", "Replaces all places and steps by random ones.");
        PalletNets x = Checks.net("p15;p15;p15;t9 0>1;");
        C.due("8: draw(0, 2, 1)", x.draw(0, 2, 1), 1);
        C.due("8: places", x.told(4), 2);
        C.due("8: steps", x.told(5), 1);
        C.due("8: tokens of both places", x.restarts(), 0);
        C.says("8", "There is a number s, which is the seed at first. To draw a number below d means: s becomes (1103515245 * s + 12345) "
            + "modulo 2147483648, and the number is (s / 65536) modulo d (integer division).");
        // s: 12345, 1406932606, 654583775, 1449466924, 229283573; divided by 65536: 0, 21468, 9988, 22117, 3498
        C.due("8: start of 0: 0 below 3", x.of(0, 0), 0);
        C.due("8: start of 1: 21468 below 3", x.of(1, 0), 0);
        C.due("8: cost: 9988 below 10", x.stepOf(0, 0), 8);
        C.due("8: place 0: 22117 below 9 is 4", x.arcOf(0, 0, 0), 1);
        C.due("8: place 0: gives 1", x.arcOf(0, 0, 1), 1);
        C.due("8: place 1: 3498 below 9 is 6", x.arcOf(0, 1, 0) + x.arcOf(0, 1, 1), 0);
        // s: 1751684876, 836118613, 1060586090; divided by 65536: 26728, 12758, 16183
        C.due("8: draw(999999, 1, 1)", x.draw(999999, 1, 1), 1);
        C.due("8: start of 0: 26728 below 3", x.of(0, 0), 1);
        C.due("8: cost: 12758 below 10", x.stepOf(0, 0), 8);
        C.due("8: place 0: 16183 below 9 is 1", x.arcOf(0, 0, 0), 2);
        C.says("8", "First the start of each of n places is drawn below 3. Then, for each of m steps, its cost is drawn below 10, and "
            + "after that, for each place, a number is drawn below 9: 0: the step takes 1 token from the place; 1: it takes 2; 2: it "
            + "gives 1; 3: it gives 2; 4: it takes 1 and gives 1; 5 to 8: neither.");
        drawn(0, "0011011121", "1 0001110000 0010010122", "1 0000020120 0010000001", "0 2010100001 0000000010",
            "5 0000220000 1200001020", "9 0000020210 1000000000", "5 1000200102 0000000020", "7 0010001102 0100001110",
            "0 0000010000 0000002000");
        drawn(999999, "1211122202", "1 0001201000 0101000011", "4 0000010000 0111200212", "6 0020120000 0000100000",
            "4 0000101210 0001120001", "9 0000000000 2101000020", "4 0000202000 0000000000", "0 1000102000 0000010000",
            "7 0002020200 2000000020");
        drawn(1, "2", "8 0 0", "5 2 0", "7 0 0", "9 0 2", "6 1 1", "7 0 2", "0 0 0", "3 0 0");
        C.says("8", "Renews the net. The keeper stays as it is.");
        PalletNets y = Checks.worn();
        C.due("8: draw(5, 6, 4), keeper on", y.draw(5, 6, 4), 112);
        C.renewed(y, "8: draw(5, 6, 4)", 1);
        PalletNets off = Checks.worn();
        off.keeper(0);
        off.draw(5, 6, 4);
        C.due("8: keeper off", off.told(7), 0);
        C.says("8", "Returns the number of markings of the search from the home marking; BAD.");
        C.due("8: draw(999999, 10, 8)", x.draw(999999, 10, 8), 200);
        C.due("8: draw(1, 1, 8)", x.draw(1, 1, 8), 8);
        C.due("8: draw(0, 10, 8)", x.draw(0, 10, 8), 2);
        C.refuses(x, BAD, "8: draw(-1, 1, 1)", () -> x.draw(-1, 1, 1));
        C.refuses(x, BAD, "8: draw(1000000, 1, 1)", () -> x.draw(1000000, 1, 1));
        C.refuses(x, BAD, "8: draw(0, 0, 1)", () -> x.draw(0, 0, 1));
        C.refuses(x, BAD, "8: draw(0, 11, 1)", () -> x.draw(0, 11, 1));
        C.refuses(x, BAD, "8: draw(0, 1, 0)", () -> x.draw(0, 1, 0));
        C.refuses(x, BAD, "8: draw(0, 1, 9)", () -> x.draw(0, 1, 9));
        C.due("8: draw(0, 1, 1)", x.draw(0, 1, 1), 1);
        C.due("8: nothing is left of ten places", x.found(0, 0), x.of(0, 0));
    }

    private static void anew() {
        C.says("9", "Removes all places and steps, and turns the keeper off. Renews the net.");
        PalletNets y = Checks.worn();
        C.due("9: anew()", y.anew(), 3);
        C.due("9: places", y.told(4), 0);
        C.due("9: steps", y.told(5), 0);
        C.due("9: sums()", y.sums(), 0);
        C.due("9: stucks()", y.stucks(), 0);
        C.renewed(y, "9: anew()", 0);
        C.says("9", "Returns the number of places that there were.");
        PalletNets x = new PalletNets();
        C.due("9: anew() of nothing", x.anew(), 0);
        C.due("9: is a change all the same", x.told(8), 1);
        C.due("9: the next place", x.place(2), 0);
        C.due("9: its tokens", x.of(0, 1), 2);
        Checks.text(x, "p1");
        x.anew();
        C.due("9: the text stays", x.told(3), 2);
    }

    private static void of() {
        PalletNets w = Checks.worn();
        C.says("10", "Returns a property of a place.");
        C.due("10: of(0, 0)", w.of(0, 0), 3);
        C.says("10", "Returns the property; BAD.");
        C.refuses(w, BAD, "10: of(3, 0)", () -> w.of(3, 0));
        C.refuses(w, BAD, "10: of(-1, 0)", () -> w.of(-1, 0));
        C.refuses(w, BAD, "10: of(0, 6)", () -> w.of(0, 6));
        C.refuses(w, BAD, "10: of(0, -1)", () -> w.of(0, -1));
        C.says("10", "0: its start; 1: its tokens in the present marking; 2: its lost tokens;");
        int[][] due = {{3, 2, 0}, {2, 1, 1}, {0, 1, 0}};
        for (int p = 0; p < 3; p++) {
            for (int what = 0; what <= 2; what++) {
                C.due("10: of(" + p + ", " + what + ")", w.of(p, what), due[p][what]);
            }
        }
        C.says("10", "3: its bound by the minimal invariants with the place in their supports: the smallest value of (weighted sum of "
            + "the starts of all places) / (weight of this place), integer division;");
        C.due("10: of(0, 3)", w.of(0, 3), 3);
        C.due("10: of(1, 3), of the starts, not of home", w.of(1, 3), 2);
        // two of place 0 make one of place 1; place 2 only grows
        PalletNets x = Checks.net("p4;p1;p0;t0 0 0>1;t0>2;");
        C.due("10: of(0, 3)", x.of(0, 3), 6);
        C.due("10: of(1, 3), just 3", x.of(1, 3), 3);
        C.due("10: of(1, 3) is rounded down from 3.5", Checks.net("p5;p1;t0 0 0>1;").of(1, 3), 3);
        C.due("10: of(1, 3) is rounded down to 0", Checks.net("p1;p0;t0 0 0>1;").of(1, 3), 0);
        C.due("10: of(0, 3) of starts of 0", Checks.net("p0;p0;t0 0>1;").of(0, 3), 0);
        // place 0 is in two invariants: with place 1 (sum 9) and with place 2 (sum 4)
        PalletNets y = Checks.net("p3;p6;p1;t0 0>1 2;t0 1 2>0;");
        C.due("10: of(0, 3), the smaller of two", y.of(0, 3), 4);
        C.due("10: of(1, 3)", y.of(1, 3), 9);
        C.due("10: of(2, 3)", y.of(2, 3), 4);
        PalletNets turned = Checks.net("p3;p1;p6;t0 0>1 2;t0 1 2>0;");
        C.due("10: of(0, 3), the smaller one first", turned.of(0, 3), 4);
        C.says("10", "NONE if there is no such invariant;");
        C.none(x, "10: of(2, 3)", () -> x.of(2, 3));
        C.says("10", "4: the greatest, 5: the smallest number of its tokens in a marking of the search from the home marking");
        // from (3, 1, 0) the guard for places 0 and 1 stops the step at (0, 1, 3)
        C.due("10: of(0, 4)", w.of(0, 4), 3);
        C.due("10: of(0, 5)", w.of(0, 5), 0);
        C.due("10: of(1, 4)", w.of(1, 4), 1);
        C.due("10: of(1, 5)", w.of(1, 5), 1);
        C.due("10: of(2, 4)", w.of(2, 4), 3);
        C.due("10: of(2, 5)", w.of(2, 5), 0);
        C.due("10: of(2, 4), as many as there can be", x.of(2, 4), 15);
        C.due("10: of(0, 5) in the second marking alone", Checks.net("p1;t0 0>;").of(0, 5), 0);
        C.due("10: of(0, 4) in the second marking alone", Checks.net("p0;p1;t0 1>0;").of(0, 4), 1);
        PalletNets gone = Checks.net("p2;p0;t0 0>1;");
        gone.runs(2, 0);
        C.due("10: of(0, 4) from home, not from the present marking", gone.of(0, 4), 2);
        C.due("10: of(1, 5) from home, not from the present marking", gone.of(1, 5), 0);
    }

    private static void arcOf() {
        PalletNets x = Checks.net("p1;p1;t1 0 0>1;");
        C.says("11", "Returns how many tokens a step takes from a place, or gives to it.");
        C.due("11: arcOf(0, 0, 0)", x.arcOf(0, 0, 0), 2);
        C.due("11: arcOf(0, 0, 1)", x.arcOf(0, 0, 1), 0);
        C.due("11: arcOf(0, 1, 0)", x.arcOf(0, 1, 0), 0);
        C.due("11: arcOf(0, 1, 1)", x.arcOf(0, 1, 1), 1);
        C.says("11", "Returns the number; BAD.");
        C.refuses(x, BAD, "11: arcOf(1, 0, 0)", () -> x.arcOf(1, 0, 0));
        C.refuses(x, BAD, "11: arcOf(-1, 0, 0)", () -> x.arcOf(-1, 0, 0));
        C.refuses(x, BAD, "11: arcOf(0, 2, 0)", () -> x.arcOf(0, 2, 0));
        C.refuses(x, BAD, "11: arcOf(0, -1, 0)", () -> x.arcOf(0, -1, 0));
        C.refuses(x, BAD, "11: arcOf(0, 0, 2)", () -> x.arcOf(0, 0, 2));
        C.refuses(x, BAD, "11: arcOf(0, 0, -1)", () -> x.arcOf(0, 0, -1));
    }

    private static void stepOf() {
        PalletNets x = Checks.net("p1;p1;p1;t7 0 0 1>1 1 2 2 0;t0>;");
        C.says("12", "Returns a property of a step.");
        C.due("12: stepOf(0, 0)", x.stepOf(0, 0), 7);
        C.says("12", "0: its cost; 1: the number of all tokens that it takes; 2: the number of all tokens that it gives");
        C.due("12: stepOf(0, 1)", x.stepOf(0, 1), 3);
        C.due("12: stepOf(0, 2)", x.stepOf(0, 2), 5);
        C.due("12: stepOf(1, 0)", x.stepOf(1, 0), 0);
        C.says("12", "Returns the property; BAD.");
        C.refuses(x, BAD, "12: stepOf(2, 0)", () -> x.stepOf(2, 0));
        C.refuses(x, BAD, "12: stepOf(-1, 0)", () -> x.stepOf(-1, 0));
        C.refuses(x, BAD, "12: stepOf(0, 3)", () -> x.stepOf(0, 3));
        C.refuses(x, BAD, "12: stepOf(0, -1)", () -> x.stepOf(0, -1));
    }
}
