import java.util.LinkedHashMap;
import java.util.Map;
import java.util.function.ToLongFunction;

/** What the document says for all methods together, sentence by sentence; the text's sentences are in TextTest. */
public final class DescriptionTest {
    private static final int BAD = PalletNets.BAD, NO = PalletNets.NO, FULL = PalletNets.FULL;
    private static final Checks C = new Checks("DescriptionTest");

    public static void main(String[] args) {
        calls();
        net();
        markings();
        guards();
        going();
        search();
        keeper();
        invariants();
        siphons();
        lines();
        renewing();
        saving();
        C.end();
    }

    private static void calls() {
        C.says("W", "An object is used for at most 512 calls after it has been made; what later calls answer is free.");
        PalletNets x = new PalletNets();
        for (int n = 1; n <= 511; n++) {
            C.due("call " + n, x.place(16), BAD);
        }
        C.due("call 512", x.told(0), 511);
        PalletNets y = new PalletNets();
        for (int n = 1; n <= 510; n++) {
            C.due("call " + n, y.keeper(n % 2), n == 1 ? 0 : 1 - n % 2);
        }
        C.due("call 511", y.told(8), 5);
        C.due("call 512", y.back(), 4);
        PalletNets z = new PalletNets();
        for (int n = 1; n <= 511; n++) {
            z.draw(n, 10, 8);
        }
        PalletNets same = new PalletNets();
        C.due("call 512", z.draw(512, 10, 8), same.draw(512, 10, 8));
    }

    private static void net() {
        C.says("D", "A net has at most 10 places and at most 8 steps (transitions), numbered from 0 in the order in which they are "
            + "added; at first there are none.");
        PalletNets x = new PalletNets();
        C.due("places at first", x.told(4), 0);
        C.due("steps at first", x.told(5), 0);
        for (int n = 0; n < 10; n++) {
            C.due("place", x.place(n), n);
            C.due("step", x.step(n < 8 ? n : 0), n < 8 ? n : FULL);
        }
        C.due("an eleventh place", x.place(0), FULL);
        for (int n = 0; n < 10; n++) {
            C.due("the place with this number", x.of(n, 0), n);
            C.due("the step with this number", x.stepOf(n, 0), n < 8 ? n : BAD);
        }
        C.says("D", "A place has a start, the number of its tokens at first (0 to 15).");
        for (int v = 0; v <= 15; v++) {
            PalletNets y = new PalletNets();
            y.place(v);
            C.due("start", y.of(0, 0), v);
            C.due("tokens at first", y.of(0, 1), v);
        }
        C.says("D", "A step takes 0, 1 or 2 tokens from each place, and gives 0, 1 or 2 tokens to each place (at first 0); it has a "
            + "cost (0 to 9).");
        PalletNets y = Checks.net("p5;p5;");
        for (int c = 0; c <= 7; c++) {
            y.step(c + 2 * (c / 7));
            C.due("cost", y.stepOf(c, 0), c == 7 ? 9 : c);
            C.due("takes at first", y.stepOf(c, 1), 0);
            C.due("gives at first", y.stepOf(c, 2), 0);
        }
        for (int w = 0; w <= 2; w++) {
            for (int way = 0; way <= 1; way++) {
                y.arc(7, 1, way, w);
                C.due("arcOf(7, 1, " + way + ")", y.arcOf(7, 1, way), w);
                C.due("arcOf(7, 0, " + way + ")", y.arcOf(7, 0, way), 0);
                C.due("can(7)", y.can(7), 0);
            }
            PalletNets one = Checks.net("p5;p5;t0>;");
            one.arc(0, 0, 0, w);
            one.arc(0, 1, 1, w);
            one.goes(0);
            C.due("tokens after it has taken " + w, one.of(0, 1), 5 - w);
            C.due("tokens after it has given " + w, one.of(1, 1), 5 + w);
        }
        C.says("D", "For each place it is known how many of its tokens are lost, at first 0.");
        PalletNets z = Checks.net("p2;p2;");
        C.due("lost at first", z.of(0, 2) + z.of(1, 2), 0);
        z.loses(1);
        C.due("of this place", z.of(1, 2), 1);
        C.due("of the other", z.of(0, 2), 0);
    }

    private static void markings() {
        C.says("D", "A marking tells for each place how many tokens it has (0 to 15).");
        PalletNets x = Checks.net("p0;p15;t0 1>0;");
        C.due("the first marking", x.found(0, 0), 0xf0);
        C.due("the last marking", x.found(15, 0), 0x0f);
        C.due("a step goes 8 times", x.runs(8, 0), 8);
        C.due("and 7 times more", x.runs(8, 0), 7);
        C.due("15 tokens", x.of(0, 1), 15);
        C.due("no tokens", x.of(1, 1), 0);
        C.says("D", "The home marking has for each place its start minus its lost tokens.");
        PalletNets y = Checks.net("p3;p3;");
        y.loses(0);
        y.loses(0);
        y.loses(1);
        C.due("the first marking of the search from home", y.found(0, 0), 0x21);
        y.loses(0);
        C.due("as many lost as its start", y.found(0, 0), 0x20);
        C.due("restarts()", y.restarts(), 2);
        C.says("D", "The present marking is at first that of the starts.");
        PalletNets z = Checks.net("p4;p0;t0 0>1;");
        C.due("tokens of place 0", z.of(0, 1), 4);
        C.due("tokens of place 1", z.of(1, 1), 0);
        C.says("D", "Sets of places or steps are bit masks.");
        PalletNets w = Checks.net("p1;p1;p0;t0 0>0;t0 2>;t0 1>1;");
        C.due("steps 0 and 2", w.all(4), 5);
        C.due("steps 0 and 2", w.found(0, 3), 5);
        w.guard(6, 1);
        C.due("places 1 and 2", w.guardOf(0, 0), 6);
        C.due("place 1 alone", w.value(0, 3), 1);
    }

    private static void guards() {
        C.says("D", "There are at most 5 guards, numbered from 0 as they are added.");
        PalletNets x = Checks.net("p9;");
        for (int g = 0; g < 5; g++) {
            C.due("guard", x.guard(1, 9 - g), g);
        }
        C.due("a sixth", x.guard(1, 1), FULL);
        for (int g = 0; g < 5; g++) {
            C.due("the guard with this number", x.guardOf(g, 1), 9 - g);
        }
        C.says("D", "A guard has a set of places, and a least number of tokens, 1 to 9.");
        for (int least = 0; least <= 10; least++) {
            PalletNets y = Checks.net("p15;");
            C.due("guard(1, " + least + ")", y.guard(1, least), least == 0 || least == 10 ? BAD : 0);
            C.due("its least number", y.guardOf(0, 1), least == 0 || least == 10 ? BAD : least);
        }
    }

    private static void going() {
        C.says("D", "A step can go in a marking if (1) each place has at least as many tokens as the step takes from it;");
        for (int tokens = 0; tokens <= 3; tokens++) {
            for (int takes = 0; takes <= 2; takes++) {
                PalletNets x = Checks.net("p9;p" + tokens + ";p9;t0 00" + "1".repeat(takes) + "22>;");
                C.due(tokens + " tokens, takes " + takes, x.can(0), tokens >= takes ? 0 : 1);
            }
        }
        C.says("D", "(2) no place has more than 15 tokens after it (the tokens that are taken are removed, and those that are given "
            + "are added);");
        for (int tokens = 12; tokens <= 15; tokens++) {
            for (int takes = 0; takes <= 2; takes++) {
                for (int gives = 0; gives <= 2; gives++) {
                    PalletNets x = Checks.net("p1;p" + tokens + ";p1;t0 " + "1".repeat(takes) + ">" + "1".repeat(gives) + ";");
                    int then = tokens - takes + gives;
                    C.due(tokens + " less " + takes + " and " + gives + " more", x.can(0), then > 15 ? 2 : 0);
                }
            }
        }
        C.due("the last of ten places", Checks.net("p1;".repeat(9) + "p15;t0>9;").can(0), 2);
        C.says("D", "(3) no guard bars it: a guard bars a step if, after the step, the tokens in the places of the guard, together, "
            + "would be fewer than its least number, and fewer than before.");
        for (int least = 1; least <= 9; least++) {
            PalletNets x = Checks.net("p9;p9;t0 0>;t0 0>0;t0>0;t0 0>1;g0/" + least + ";g01/1;");
            for (int left = 8; left >= least; left--) {
                C.due("no fewer than " + least, x.can(0), 0);
                x.goes(0);
                C.due("left", x.of(0, 1), left);
            }
            C.due("fewer than " + least, x.can(0), 3);
            C.due("fewer than " + least + ", though not together with place 1", x.can(3), 3);
            C.due("as many as before", x.can(1), 0);
            C.due("more than before", x.can(2), 0);
            x.loses(0);
            C.due("below already, and fewer", x.can(0), 3 - 2 * (least == 1 ? 1 : 0));
            C.due("below already, and as many", x.can(1), least == 1 ? 1 : 0);
            C.due("below already, and more", x.can(2), 0);
        }
        PalletNets both = Checks.net("p2;p2;t0 0>1;t0 0>;t0 1>;g01/4;");
        C.due("from one of its places to the other", both.can(0), 0);
        C.due("out of the first", both.can(1), 3);
        C.due("out of the second", both.can(2), 3);
    }

    private static void search() {
        C.says("D", "The search from a marking gives a list of markings. It begins with this one.");
        PalletNets x = Checks.net("p2;p3;t0 0>;t0 1>;");
        x.goes(0);
        C.due("the first is home", x.found(0, 0), 0x32);
        C.due("no steps lead to it", x.found(0, 1), 0);
        C.says("D", "For each marking of the list, in order, for each step in ascending order that can go in it, the marking after "
            + "the step is appended, if it is not in the list already;");
        long[] due = {0x32, 0x31, 0x22, 0x30, 0x21, 0x12, 0x20, 0x11, 0x02, 0x10, 0x01, 0x00};
        C.due("their number", x.all(0), due.length);
        for (int m = 0; m < due.length; m++) {
            C.due("marking " + m, x.found(m, 0), due[m]);
        }
        PalletNets turned = Checks.net("p2;p3;t0 1>;t0 0>;");
        C.due("the lower step leads first", turned.found(1, 0), 0x22);
        C.due("then the higher", turned.found(2, 0), 0x31);
        C.due("a step that changes nothing appends nothing", Checks.net("p1;t0 0>0;").all(0), 1);
        C.due("two steps to the same marking append it once", Checks.net("p1;t0 0>;t0 0>;").all(0), 2);
        C.says("D", "but a list that has 200 markings does not grow any more.");
        // exactly 199, 200 and 201 markings can be reached in these
        int[][] nets = {{3524, 199, 1}, {242, 200, 1}, {2916, 200, 0}};
        for (int[] net : nets) {
            PalletNets y = new PalletNets();
            C.due("draw(" + net[0] + ", 4, 3)", y.draw(net[0], 4, 3), net[1]);
            C.due("all(0)", y.all(0), net[1]);
            C.due("all(1)", y.all(1), net[2]);
        }
    }

    private static void keeper() {
        // step 0 leads to where nothing goes on, step 1 there and back
        String net = "p1;p0;t0 0>;t0 0>1;t0 1>0;";
        C.says("D", "The keeper is on or off, at first off.");
        PalletNets x = Checks.net(net);
        C.due("at first", x.told(7), 0);
        x.keeper(1);
        C.due("on", x.told(7), 1);
        x.keeper(0);
        C.due("off", x.told(7), 0);
        C.says("D", "If it is on, a step that can go in the present marking is allowed only if the search from the marking after it "
            + "contains the home marking.");
        x.keeper(1);
        C.due("no way home", x.can(0), 4);
        C.due("a way home", x.can(1), 0);
        C.due("it cannot go", x.can(2), 1);
        C.refuses(x, NO, "goes(0)", () -> x.goes(0));
        C.due("goes(1)", x.goes(1), 1);
        C.due("home itself", x.can(2), 0);
        C.says("D", "If it is off, each step that can go is allowed.");
        PalletNets y = Checks.net(net);
        C.due("no way home", y.can(0), 0);
        C.due("goes(0)", y.goes(0), 0);
    }

    private static void invariants() {
        C.says("D", "An invariant consists of integer weights for all places, 0 or greater, not all 0, with no common divisor greater "
            + "than 1, such that for each step (whether it can go or not) the weighted sum of the tokens that it gives equals that "
            + "of the tokens that it takes.");
        C.due("not all 0: no places", new PalletNets().sums(), 0);
        C.due("not all 0: a place that only grows", Checks.net("p0;t0>0;").sums(), 0);
        // weights of -1 and 1 would balance the step that gives both
        C.due("0 or greater", Checks.net("p0;p0;t0>0 1;").sums(), 0);
        PalletNets x = Checks.net("p0;p0;t0 0 0>1 1;");
        C.due("no common divisor: weight of 0", x.sum(0, 0), 1);
        C.due("no common divisor: weight of 1", x.sum(0, 1), 1);
        PalletNets two = Checks.net("p0;p0;p0;t0 0 0>1;t0 1 1>2 2;");
        C.due("weights 1, 2, 2", two.sum(0, 0) * 100 + two.sum(0, 1) * 10 + two.sum(0, 2), 122);
        C.due("a step that can never go: it takes 2 of 0 tokens", Checks.net("p0;t0 0 0>;").sums(), 0);
        C.due("a step that can never go: 16 tokens", Checks.net("p15;t0>0;").sums(), 0);
        C.due("a step that takes as many as it gives", Checks.net("p0;t0 0 0>0 0;").sums(), 1);
        C.says("D", "Its support consists of the places with a weight above 0.");
        C.due("places 0 and 1", x.value(0, 3), 3);
        PalletNets y = Checks.net("p0;p0;p0;t0 0>2;t0>1;");
        C.due("places 0 and 2", y.value(0, 3), 5);
        C.due("place 1 has the weight 0", y.sum(0, 1), 0);
        C.says("D", "It is minimal if there is no other invariant whose support is a subset of its support.");
        // 0 and 1 with the weight 1 each, and 2, but not all three together
        PalletNets z = Checks.net("p0;p0;p0;t0 0>1;");
        C.due("two of them", z.sums(), 2);
        C.due("the first", z.value(0, 3), 3);
        C.due("the second", z.value(1, 3), 4);
        C.says("D", "Minimal invariants are numbered from 0 by their supports as ascending bit masks.");
        PalletNets w = Checks.net("p0;p0;p0;p0;p0;t0 0>4;t0 1>3;");
        int[] supports = {4, 10, 17};
        for (int k = 0; k < 3; k++) {
            C.due("support " + k, w.value(k, 3), supports[k]);
        }
        C.due("no more of them", w.sums(), 3);
    }

    private static void siphons() {
        C.says("D", "A siphon is a set of at least one place such that each step that gives tokens to one of its places takes tokens "
            + "from one of its places, too.");
        PalletNets x = Checks.net("p1;p1;p1;t0 0>1;t0>2;");
        C.due("no step gives to place 0", x.sort(1) & 1, 1);
        C.due("a step gives to 1 and takes from 0", x.sort(2) & 1, 0);
        C.due("which is within", x.sort(3) & 1, 1);
        C.due("a source gives to 2", x.sort(4) & 1, 0);
        C.due("also within a greater set", x.sort(7) & 1, 0);
        C.due("no place is no siphon", Checks.net("p0;t0>0;").stucks(), 0);
        C.due("no place is no set", x.sort(0), BAD);
        C.says("D", "A trap is a set of places, perhaps empty, such that each step that takes tokens from one of its places gives "
            + "tokens to one of its places, too.");
        PalletNets y = Checks.net("p1;p1;p1;t0 0>1;t0 2>;");
        C.due("a step takes from 0 and gives to 1", y.sort(1) & 2, 0);
        C.due("which is within", y.sort(3) & 2, 2);
        C.due("no step takes from 1", y.sort(2) & 2, 2);
        C.due("a drain takes from 2", y.sort(4) & 2, 0);
        C.due("the empty trap within place 2", y.stuck(1, 3), 0);
        C.says("D", "A siphon is minimal if no other siphon is a subset of it.");
        PalletNets z = Checks.net("p1;p1;p1;t0 0>1;t0 1>0;t0 0>2;");
        C.due("places 0 and 1", z.sort(3) & 1, 1);
        C.due("all three are a siphon too", z.sort(7) & 1, 1);
        C.due("which is not minimal", z.stucks(), 1);
        C.due("as 0 and 1 are", z.stuck(0, 0), 3);
        C.says("D", "Minimal siphons are numbered from 0 in ascending order of the number of their places, and for equal numbers of "
            + "their bit masks.");
        PalletNets w = Checks.net("p1;p1;p1;p1;p1;p1;t0 0>1;t0 1>0;t0 3>4;t0 4>3;");
        int[] sets = {4, 32, 3, 24};
        for (int k = 0; k < 4; k++) {
            C.due("siphon " + k, w.stuck(k, 0), sets[k]);
        }
        C.due("no more of them", w.stucks(), 4);
        C.says("D", "The held part of a set is the greatest trap that is a subset of it.");
        // a token goes round from 0 over 1 to 2, and may leave from 0: of all three nothing is held
        PalletNets leaving = Checks.net("p1;p0;p0;t0 0>1;t0 1>2;t0 2>0;t0 0>;");
        C.due("the siphon", leaving.stuck(0, 0), 7);
        C.due("nothing is held", leaving.stuck(0, 3), 0);
        PalletNets part = Checks.net("p1;p0;p1;t0 0>2;t0 1>1 0;t0 0 2>1;");
        C.due("of places 0 and 1", part.stuck(0, 0), 3);
        C.due("place 1 is held", part.stuck(0, 3), 2);
        C.due("a trap is all held", w.stuck(3, 3), 24);
        C.says("D", "A siphon is safe if the starts of its held part are not all 0.");
        C.due("a token in place 0, which is not held", part.stuck(0, 4), 0);
        part.start(1, 1);
        C.due("a token in place 1, which is held", part.stuck(0, 4), 1);
        part.loses(1);
        C.due("lost, but it is the start that counts", part.stuck(0, 4), 1);
        C.due("nothing held is not safe", leaving.stuck(0, 4), 0);
        PalletNets one = Checks.net("p0;p1;t0 0>1;t0 1>0;");
        C.due("one of its starts is enough", one.stuck(0, 4), 1);
        one.start(1, 0);
        C.due("all of them are 0", one.stuck(0, 4), 0);
    }

    /** The net has these arcs: for each step the digits of the places it takes from, '>', and those it gives to. */
    private static void arcs(String net, PalletNets x, int first, String... arcs) {
        for (int i = 0; i < arcs.length; i++) {
            String[] sides = (arcs[i] + " ").split(">");
            for (int way = 0; way <= 1; way++) {
                for (int p = 0; p < x.told(4); p++) {
                    int n = sides[way].contains("" + p) ? 1 : 0;
                    C.due(net + ", arcOf(" + (first + i) + ", " + p + ", " + way + ")", x.arcOf(first + i, p, way), n);
                }
            }
        }
    }

    private static void lines() {
        C.says("D", "A line of k pallets through n machines m1, ..., mn, which are places that exist already (perhaps the same one "
            + "several times), consists of new places and steps.");
        PalletNets x = Checks.net("p1;p1;p1;l5 2012;");
        C.due("places", x.told(4), 8);
        C.due("steps", x.told(5), 5);
        for (int p = 0; p < 3; p++) {
            C.due("a machine's start stays", x.of(p, 0), 1);
        }
        C.says("D", "First a place with the start k, the store, is added, then n places q1, ..., qn with the start 0; then n + 1 steps "
            + "with the cost 1.");
        C.due("the store's start", x.of(3, 0), 5);
        for (int i = 1; i <= 4; i++) {
            C.due("the start of q" + i, x.of(3 + i, 0), 0);
        }
        for (int t = 0; t <= 4; t++) {
            C.due("cost of step " + t, x.stepOf(t, 0), 1);
        }
        C.due("the least line", Checks.net("p1;").line(1, 0, 0), 1);
        C.due("the greatest line", Checks.net("p1;").line(9, 0, 0), 1);
        C.says("D", "The first step takes a token from the store and one from m1, and gives one to q1.");
        arcs("a line of 4", x, 0, "32>4");
        C.says("D", "Step number i, for i from 2 to n, takes a token from q(i - 1) and one from mi, and gives one to qi and one to "
            + "m(i - 1).");
        arcs("a line of 4", x, 1, "40>52", "51>60", "62>71");
        C.says("D", "The last step takes a token from qn, and gives one to the store and one to mn.");
        arcs("a line of 4", x, 4, "7>32");
        arcs("a line of 1", Checks.net("p1;p1;l5 1;"), 0, "21>3", "3>21");
        PalletNets two = Checks.net("p1;t0>;");
        two.line(2, 0, 0);
        arcs("a line of the same machine twice, after another step", two, 0, ">", "10>2", "20>30", "3>10");
    }

    /** A guard, a lost token, a moved one, the keeper on, a step that can go, and four states kept. */
    private static PalletNets fourKept() {
        PalletNets x = Checks.net("p3;p2;p0;t1 0>2;t1 2>0;g01/1;");
        x.loses(1);
        x.goes(0);
        x.keeper(1);
        x.clear();
        return x;
    }

    private static PalletNets fiveKept() {
        PalletNets x = fourKept();
        x.cost(1, 7);
        return x;
    }

    private static final Map<String, ToLongFunction<PalletNets>> RENEWING = new LinkedHashMap<>();
    private static final Map<String, ToLongFunction<PalletNets>> CHANGES = new LinkedHashMap<>();

    static {
        RENEWING.put("place(1)", x -> x.place(1));
        RENEWING.put("step(1)", x -> x.step(1));
        RENEWING.put("arc(0, 0, 0, 1), as it is", x -> x.arc(0, 0, 0, 1));
        RENEWING.put("arc(0, 0, 0, 2)", x -> x.arc(0, 0, 0, 2));
        RENEWING.put("start(0, 3), as it is", x -> x.start(0, 3));
        RENEWING.put("start(0, 4)", x -> x.start(0, 4));
        RENEWING.put("line(1, 0, 0)", x -> x.line(1, 0, 0));
        RENEWING.put("draw(1, 1, 1)", x -> x.draw(1, 1, 1));
        RENEWING.put("anew()", PalletNets::anew);
        RENEWING.put("reads() of p", x -> Checks.read(x, "p1;"));
        RENEWING.put("reads() of t", x -> Checks.read(x, "t1>;"));
        RENEWING.put("reads() of l", x -> Checks.read(x, "l10;"));
        CHANGES.put("cost(0, 1), as it is", x -> x.cost(0, 1));
        CHANGES.put("cost(0, 2)", x -> x.cost(0, 2));
        CHANGES.put("goes(0)", x -> x.goes(0));
        CHANGES.put("runs(8, 0)", x -> x.runs(8, 0));
        CHANGES.put("restarts()", PalletNets::restarts);
        CHANGES.put("loses(0)", x -> x.loses(0));
        CHANGES.put("returns(1)", x -> x.returns(1));
        CHANGES.put("keeper(1), as it is", x -> x.keeper(1));
        CHANGES.put("keeper(0)", x -> x.keeper(0));
        CHANGES.put("guard(1, 1)", x -> x.guard(1, 1));
        CHANGES.put("guards()", PalletNets::guards);
        CHANGES.put("drop(0)", x -> x.drop(0));
        CHANGES.put("reads() of g", x -> Checks.read(x, "g0/1;"));
    }

    private static void renewing() {
        C.says("D", "Methods that are said to renew the net remove all guards, make the lost tokens 0, and make the present marking "
            + "that of the starts.");
        RENEWING.forEach((call, f) -> {
            PalletNets x = fourKept();
            C.isTrue(call, f.applyAsLong(x) >= 0);
            C.due(call + ": guards", x.told(6), 0);
            for (int p = 0; p < x.told(4); p++) {
                C.due(call + ": lost of " + p, x.of(p, 2), 0);
                C.due(call + ": present of " + p, x.of(p, 1), x.of(p, 0));
            }
        });
        CHANGES.forEach((call, f) -> {
            PalletNets x = fourKept();
            C.isTrue(call, f.applyAsLong(x) >= 0);
            C.isTrue(call + " does not renew: guards stay", x.told(6) >= 1 || call.startsWith("drop"));
            C.isTrue(call + " does not renew: lost tokens stay", x.of(1, 2) == 1 || call.startsWith("returns"));
            C.isTrue(call + " does not renew: so does the present marking", x.of(2, 1) >= 1 || call.startsWith("restarts"));
        });
    }

    private static void saving() {
        C.says("D", "Each successful call of a method that is called a change below saves the state before it (net, guards, lost tokens, "
            + "present marking, keeper), even if nothing becomes different; a method that renews the net is a change.");
        RENEWING.forEach(DescriptionTest::saves);
        CHANGES.forEach(DescriptionTest::saves);
        PalletNets x = Checks.net("p3;");
        x.restarts();
        x.runs(8, 0);
        x.guards();
        C.due("restarts() at home, runs() of no step, guards() of none", x.told(8), 4);
        C.says("D", "At most 5 states are kept; the oldest ones are lost.");
        RENEWING.forEach(DescriptionTest::pushesOut);
        CHANGES.forEach(DescriptionTest::pushesOut);
    }

    private static void saves(String call, ToLongFunction<PalletNets> f) {
        PalletNets x = fourKept();
        f.applyAsLong(x);
        C.due(call + " is one change", x.told(8), 5);
        C.due(call + ", back()", x.back(), 4);
        C.due(call + ", back(): the state", Checks.content(x), Checks.content(fourKept()));
    }

    private static void pushesOut(String call, ToLongFunction<PalletNets> f) {
        for (int backs = 1; backs <= 5; backs++) {
            PalletNets x = fiveKept();
            f.applyAsLong(x);
            C.due(call + ": states kept", x.told(8), 5);
            PalletNets twin = fiveKept();
            for (int n = 1; n <= backs; n++) {
                C.due(call + ", back()", x.back(), 5 - n);
            }
            for (int n = 1; n < backs; n++) {
                twin.back();
            }
            C.due(call + ", back() " + backs + " times", Checks.content(x), Checks.content(twin));
        }
        PalletNets x = fiveKept();
        f.applyAsLong(x);
        for (int n = 1; n <= 5; n++) {
            x.back();
        }
        C.refuses(x, NO, call + ": the oldest is lost", x::back);
        C.due(call + ": the net of the one after it", x.told(4), 3);
    }
}
