/** Promises 30 to 32: all that can come. */
public final class SearchTest {
    private static final int BAD = PalletNets.BAD;
    private static final Checks C = new Checks("SearchTest");

    private static final String RING = "p2;p0;p0;t1 0>1;t2 1>2;t3 2>0;";
    private static final String GROWING = "p0;p0;t1>0;t1>1;";

    public static void main(String[] args) {
        allOf();
        foundOf();
        ring();
        limits();
        home();
        homeTies();
        homeLimits();
        C.end();
    }

    private static void all(String net, PalletNets x, int... due) {
        for (int what = 0; what < due.length; what++) {
            C.due("30: " + net + ", all(" + what + ")", x.all(what), due[what]);
        }
    }

    private static void allOf() {
        C.says("30", "Returns a property of the search from the home marking.");
        PalletNets moved = Checks.net(RING);
        moved.runs(8, 0);
        moved.loses(0);
        C.due("30: from home, not from the present marking", moved.found(0, 0), 1);
        C.says("30", "Returns the property; BAD.");
        C.refuses(moved, BAD, "30: all(6)", () -> moved.all(6));
        C.refuses(moved, BAD, "30: all(-1)", () -> moved.all(-1));
        C.says("30", "0: the number of markings;");
        C.due("30: home alone", Checks.net("p1;").all(0), 1);
        C.due("30: home and another", Checks.net("p1;t0 0>;").all(0), 2);
        C.due("30: as many as there can be", Checks.net(GROWING).all(0), 200);
        C.says("30", "1: 1 if it is complete (each step that can go in one of the markings leads to one of them), else 0;");
        C.due("30: no step", Checks.net("p1;").all(1), 1);
        C.due("30: a step that leads to the same marking", Checks.net("p1;t0 0>0;").all(1), 1);
        C.due("30: all steps lead to markings of the list", Checks.net(RING).all(1), 1);
        C.due("30: a step leads out of the list", Checks.net(GROWING).all(1), 0);
        PalletNets fewer = Checks.net("p0;p0;t0 0>;t0 1>;t0>0;t0>1;");
        C.due("30: steps 2 and 3 lead out of the list", fewer.all(1), 0);
        fewer.anew();
        Checks.read(fewer, "p15;p11;t0 0>;t0 1>;");
        C.due("30: 192 markings, and nothing is left of steps 2 and 3", fewer.all(1), 1);
        C.due("30: just 200 markings", Checks.net("p7;p4;p4;t0 0>;t0 1>;t0 2>;").all(1), 1);
        C.says("30", "2: the number of markings in which no step can go;");
        C.due("30: no step at all", Checks.net("p1;").all(2), 1);
        C.due("30: none where a step goes for ever", Checks.net(RING).all(2), 0);
        C.due("30: the last alone", Checks.net("p3;t0 0>;").all(2), 1);
        C.due("30: home alone, by its guard", Checks.net("p3;t0 0>;g0/3;").all(2), 1);
        C.due("30: two ends", Checks.net("p1;p0;p0;t0 0>1;t0 0>2;").all(2), 2);
        C.says("30", "3: the number of markings from which the home marking cannot be reached by steps that can go, over markings of "
            + "this search (the home marking counts as reached from itself);");
        C.due("30: home alone", Checks.net("p1;").all(3), 0);
        C.due("30: all but home", Checks.net("p3;t0 0>;").all(3), 3);
        C.due("30: none in a ring", Checks.net(RING).all(3), 0);
        C.due("30: ways that only lead over markings past the 200th",
            Checks.net("p10;p0;p0;p0;t0 0>1;t0 1>2;t0 2>3;t0 3>0;").all(3), 2);
        C.says("30", "4: the set of the steps that can go in at least one of the markings;");
        C.due("30: no step", Checks.net("p1;").all(4), 0);
        C.due("30: the last of eight", Checks.net("p0;" + "t0 0>;".repeat(7) + "t0>;").all(4), 128);
        C.due("30: all of eight", Checks.net("p1;" + "t0 0>;".repeat(8)).all(4), 255);
        C.due("30: one that can go only later", Checks.net("p1;p0;t0 1>;t0 0>1;").all(4), 3);
        C.due("30: one that leads out of the list", Checks.net("p14;p13;t0 0>;t0 1>;").all(4), 3);
        C.says("30", "5: the greatest number of tokens of all places together");
        C.due("30: no place", new PalletNets().all(5), 0);
        C.due("30: home has the most", Checks.net("p3;t0 0>;").all(5), 3);
        C.due("30: a later one has", Checks.net("p1;p0;t0 0>1 1;t0 1>;").all(5), 2);
        C.due("30: ten places", Checks.net("p15;".repeat(10)).all(5), 150);
    }

    private static void foundOf() {
        PalletNets x = Checks.net("p2;p0;p1;t0 0>1;t0 1>0;t0 1 2>1;");
        C.says("31", "Returns a property of a marking of the search from the home marking.");
        x.goes(0);
        C.due("31: the first is home", x.found(0, 0), 0x102);
        C.says("31", "Returns the property; NONE if there is no marking with this index; BAD, also if m is negative.");
        C.due("31: the last", x.found(5, 0), 0x002);
        C.none(x, "31: found(6, 0)", () -> x.found(6, 0));
        C.none(x, "31: found(MAX, 3)", () -> x.found(Integer.MAX_VALUE, 3));
        C.refuses(x, BAD, "31: found(-1, 0)", () -> x.found(-1, 0));
        C.refuses(x, BAD, "31: found(MIN, 0)", () -> x.found(Integer.MIN_VALUE, 0));
        C.refuses(x, BAD, "31: found(0, 4)", () -> x.found(0, 4));
        C.refuses(x, BAD, "31: found(0, -1)", () -> x.found(0, -1));
        C.refuses(x, BAD, "31: found(6, 4)", () -> x.found(6, 4));
        // in order: 102, 111, 120, 011, 020, 002; the token of place 2 does not come back
        long[][] due = {{0x102, 0x111, 0x120, 0x011, 0x020, 0x002}, {0, 1, 2, 2, 3, 3}, {1, 1, 1, 0, 0, 0}, {1, 7, 6, 3, 2, 1}};
        C.says("31", "0: its tokens, as the sum over all places p of (tokens of place p) * 16^p;");
        found(x, 0, due[0]);
        C.due("31: ten places of 15", Checks.net("p15;".repeat(10)).found(0, 0), 1099511627775L);
        C.due("31: the tenth alone", Checks.net("p0;".repeat(9) + "p1;").found(0, 0), 68719476736L);
        C.says("31", "1: the smallest number of steps by which the search reaches it;");
        found(x, 1, due[1]);
        C.due("31: at once, though over another marking too", Checks.net("p1;p0;p0;t0 0>1;t0 1>2;t0 0>2;").found(2, 1), 1);
        C.says("31", "2: 1 if the home marking can be reached from it, as described at all(), else 0;");
        found(x, 2, due[2]);
        PalletNets end = Checks.net("p1;t0 0>;");
        found(end, 2, 1, 0);
        C.says("31", "3: the set of the steps that can go in it");
        found(x, 3, due[3]);
        C.due("31: one that leads out of the list", Checks.net(GROWING).found(199, 3), 3);
    }

    private static void found(PalletNets x, int what, long... due) {
        for (int m = 0; m < due.length; m++) {
            C.due("31: found(" + m + ", " + what + ")", x.found(m, what), due[m]);
        }
    }

    private static void ring() {
        PalletNets x = Checks.net(RING);
        all("ring", x, 6, 1, 0, 0, 7, 2);
        long[] tokens = {2, 17, 32, 257, 272, 512};
        int[] steps = {0, 1, 2, 2, 3, 4};
        int[] able = {1, 3, 2, 5, 6, 4};
        for (int m = 0; m < 6; m++) {
            C.due("31: found(" + m + ", 0)", x.found(m, 0), tokens[m]);
            C.due("31: found(" + m + ", 1)", x.found(m, 1), steps[m]);
            C.due("31: found(" + m + ", 2)", x.found(m, 2), 1);
            C.due("31: found(" + m + ", 3)", x.found(m, 3), able[m]);
        }
        C.none(x, "31: found(6, 0)", () -> x.found(6, 0));
        C.none(x, "31: found(MAX, 3)", () -> x.found(Integer.MAX_VALUE, 3));
        C.refuses(x, BAD, "31: found(-1, 0)", () -> x.found(-1, 0));
        C.refuses(x, BAD, "31: found(0, 4)", () -> x.found(0, 4));
        C.refuses(x, BAD, "31: found(0, -1)", () -> x.found(0, -1));
        C.refuses(x, BAD, "31: found(6, 4)", () -> x.found(6, 4));
        C.refuses(x, BAD, "30: all(6)", () -> x.all(6));
        C.refuses(x, BAD, "30: all(-1)", () -> x.all(-1));
        x.goes(0);
        C.due("30: from home, not from the present marking", x.found(0, 0), 2);
        x.loses(0);
        all("ring with one token", x, 3, 1, 0, 0, 7, 1);
        x.returns(0);
        x.guard(1, 1);
        // (2,0,0), (1,1,0), (1,0,1): place 0 keeps one token
        all("ring with a guard", x, 3, 1, 0, 0, 7, 2);
        x.drop(0);
        all("ring without it", x, 6, 1, 0, 0, 7, 2);
        x.back();
        all("ring with it again", x, 3, 1, 0, 0, 7, 2);
        x.keeper(1);
        all("the keeper does not matter", x, 3, 1, 0, 0, 7, 2);
        PalletNets sink = Checks.net("p1;p0;p0;t1 0>1;t1 1>0;t1 0>2;t1 2 2>;");
        C.due("31: found(2, 2), asked first", sink.found(2, 2), 0);
        all("sink", sink, 3, 1, 1, 1, 7, 1);
        C.due("31: found(1, 2)", sink.found(1, 2), 1);
        C.due("31: found(2, 2)", sink.found(2, 2), 0);
        C.due("31: found(2, 3)", sink.found(2, 3), 0);
        PalletNets high = Checks.net("p1;p2;p3;p4;p5;p6;p7;p8;p9;p15;");
        C.due("31: ten places", high.found(0, 0), 0xf987654321L);
    }

    private static void limits() {
        all("one place that grows", Checks.net("p0;t1>0;"), 16, 1, 1, 15, 1, 15);
        PalletNets x = Checks.net(GROWING);
        all("two places that grow", x, 200, 0, 0, 199, 3, 20);
        C.due("31: found(199, 0) is (6, 14)", x.found(199, 0), 6 + 16 * 14);
        C.due("31: found(199, 1)", x.found(199, 1), 20);
        C.due("31: found(199, 2)", x.found(199, 2), 0);
        C.due("31: found(199, 3), though both lead out", x.found(199, 3), 3);
        C.none(x, "31: found(200, 0)", () -> x.found(200, 0));
        C.due("10: of(0, 4)", x.of(0, 4), 15);
        C.due("10: of(1, 4)", x.of(1, 4), 15);
        all("just 200 markings", Checks.net("p7;p4;p4;t0 0>;t0 1>;t0 2>;"), 200, 1, 1, 199, 7, 15);
        all("210 markings", Checks.net("p14;p13;t0 0>;t0 1>;"), 200, 0, 0, 199, 3, 27);
        // all 256 markings of the field lead back, but not all ways do within the list
        all("a field with ways back", Checks.net("p0;p0;t0>0;t0>1;t0 0>;t0 1>;"), 200, 0, 0, 0, 15, 20);
        PalletNets drawn = new PalletNets();
        Model model = new Model();
        C.due("8: draw(37185, 3, 3)", drawn.draw(37185, 3, 3), 200);
        model.draw(37185, 3, 3);
        C.due("30: step 0 alone leads out of this list, all(1)", drawn.all(1), 0);
        C.due("30: as in the model", drawn.all(1), model.all(1));
    }

    private static void due(String at, PalletNets x, int cost, int steps, int first) {
        C.due("32: " + at + ", home(0)", x.home(0), cost);
        C.due("32: " + at + ", home(1)", x.home(1), steps);
        C.due("32: " + at + ", home(2)", x.home(2), first);
    }

    private static void home() {
        C.says("32", "Finds the cheapest way home: of all sequences of steps that can go one after the other, from the present marking "
            + "to the home marking, over markings of the search from the present marking (the keeper does not matter), those with the "
            + "smallest sum of costs, of these those with the fewest steps.");
        PalletNets x = Checks.net(RING);
        due("at home", x, 0, 0, -1);
        x.runs(3, 0);
        // two tokens at 1, one of them goes on: (0, 1, 1)
        due("ring at (0, 1, 1)", x, 8, 3, 1);
        x.keeper(1);
        due("the keeper does not matter", x, 8, 3, 1);
        x.keeper(0);
        x.cost(1, 0);
        x.cost(2, 0);
        due("for nothing", x, 0, 3, 1);
        C.refuses(x, BAD, "32: home(3)", () -> x.home(3));
        C.refuses(x, BAD, "32: home(-1)", () -> x.home(-1));
        PalletNets sink = Checks.net("p1;p0;t1 0>1;");
        sink.goes(0);
        due("no way home", sink, -1, -1, -1);
        C.none(sink, "32: home(0)", () -> sink.home(0));
        sink.loses(0);
        due("still none", sink, -1, -1, -1);
        PalletNets lost = Checks.net("p2;p0;t1 0>1;t5 1>0;");
        lost.goes(0);
        lost.loses(0);
        due("home without its lost token", lost, 5, 1, 1);
        PalletNets guarded = Checks.net("p2;p0;p1;t1 0>1;t5 1 2>0 2;t2 1 2>0;t1 0 0>0 0 2;g2/1;");
        guarded.goes(0);
        due("guards hold on the way", guarded, 5, 1, 1);
        guarded.drop(0);
        due("and not once they are dropped", guarded, 3, 2, 2);
    }

    private static void homeTies() {
        C.says("32", "0: this sum; 1: the number of steps; 2: the lowest number of a first step of one of these sequences, NONE if the "
            + "present marking is the home marking");
        // from (0, 1, 0): 4 at once by step 2, or 2 and 2 over place 2
        PalletNets x = Checks.net("p1;p0;p0;t2 1>2;t2 2>0;t4 1>0;t0 0>1;");
        x.goes(3);
        due("fewest steps of the cheapest", x, 4, 1, 2);
        x.cost(2, 5);
        due("cheaper comes before fewer", x, 4, 2, 0);
        x.cost(2, 3);
        due("cheapest and fewest", x, 3, 1, 2);
        PalletNets free = Checks.net("p1;p0;t3 0>1;t0 1>0;");
        free.goes(0);
        due("one step at no cost", free, 0, 1, 1);
        PalletNets empty = Checks.net("p1;t3 0>;t2>0;");
        empty.goes(0);
        due("from where no token is", empty, 2, 1, 1);
        PalletNets over = Checks.net("p1;p0;t3 0>1;t2 1>;t5>0;");
        over.goes(0);
        due("over where no token is", over, 7, 2, 1);
        PalletNets atHome = Checks.net("p1;t0 0>0;");
        due("at home, though a step leads from there to there", atHome, 0, 0, -1);
        PalletNets y = Checks.net("p1;p0;t9 1>0;t4 1>0;t4 1>0;t0 0>1;");
        y.goes(3);
        due("the lowest first step", y, 4, 1, 1);
        // many steps at no cost against one at a cost of 1
        PalletNets z = Checks.net("p1;p0;p0;p0;p0;t1 4>0;t0 1>0;t0 2>1;t0 3>2;t0 4>3;t0 0>4;");
        z.goes(5);
        due("four steps at no cost", z, 0, 4, 4);
    }

    private static void homeLimits() {
        C.says("32", "Returns that number; NONE if there is no such sequence; BAD.");
        PalletNets field = Checks.net("p0;p0;t0>0;t0>1;t0 0>;t0 1>;");
        for (int i = 0; i < 8; i++) {
            field.goes(0);
        }
        due("within the list", field, 0, 8, 2);
        for (int i = 0; i < 22; i++) {
            field.goes(i < 7 ? 0 : 1);
        }
        due("home is past the 200th marking", field, -1, -1, -1);
        // home (0, 0) is the 200th marking from (3, 12), and would be the 201st from (3, 13)
        PalletNets near = Checks.net("p0;p0;t0 0>;t0 1>;t0>0;t0>1;");
        for (int i = 0; i < 15; i++) {
            near.goes(i < 3 ? 2 : 3);
        }
        due("home is the 200th marking", near, 0, 15, 0);
        near.goes(3);
        due("home would be the 201st marking", near, -1, -1, -1);
        for (int what = 0; what <= 2; what++) {
            int w = what;
            C.none(near, "32: home(" + w + ")", () -> near.home(w));
        }
        C.refuses(near, BAD, "32: home(3)", () -> near.home(3));
        C.refuses(near, BAD, "32: home(-1)", () -> near.home(-1));
        // nine for each of ten steps, and no shorter way
        PalletNets dear = Checks.net("p10;p0;t0 0>1;t9 1>0;");
        dear.runs(8, 0);
        dear.runs(2, 0);
        due("the dearest steps", dear, 90, 10, 1);
    }
}
