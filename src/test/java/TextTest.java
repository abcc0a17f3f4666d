/** Promises 33 to 35: texts. */
public final class TextTest {
    private static final int BAD = PalletNets.BAD, FULL = PalletNets.FULL;
    private static final Checks C = new Checks("TextTest");

    public static void main(String[] args) {
        type();
        clear();
        right();
        placeErrors();
        stepErrors();
        lineErrors();
        guardErrors();
        limits();
        effects();
        renewing();
        C.end();
    }

    /** The text is right on a new object, and has so many orders. */
    private static PalletNets orders(String text, int orders) {
        PalletNets x = new PalletNets();
        C.due("35: '" + text + "'", Checks.read(x, text), orders);
        C.due("35: '" + text + "' is one change", x.told(8), 1);
        C.due("35: '" + text + "' stays", x.told(3), text.length());
        return x;
    }

    /** The text has its error at this position on a new object, and nothing is done or counted. */
    private static void error(String text, int position) {
        PalletNets x = new PalletNets();
        error(x, text, position);
        C.due("35: '" + text + "' makes no place", x.told(4), 0);
        C.due("35: '" + text + "' makes no step", x.told(5), 0);
    }

    private static void error(PalletNets x, String text, int position) {
        Checks.text(x, text);
        long before = x.digest();
        C.due("35: '" + text + "'", x.reads(), -10 - position);
        C.due("35: '" + text + "' changes and counts nothing: digest()", x.digest(), before);
    }

    private static void type() {
        C.says("33", "Appends a byte to the text.");
        PalletNets x = new PalletNets();
        C.due("33: type(0)", x.type(0), 1);
        C.due("33: type(127)", x.type(127), 2);
        C.says("33", "Returns the number of bytes of the text then; BAD; FULL if the text has 120 bytes.");
        C.refuses(x, BAD, "33: type(128)", () -> x.type(128));
        C.refuses(x, BAD, "33: type(-1)", () -> x.type(-1));
        for (int n = 3; n <= 120; n++) {
            C.due("33: type(32)", x.type(32), n);
        }
        C.refuses(x, FULL, "33: type(32), byte 121", () -> x.type(32));
        C.refuses(x, BAD, "33: type(128), byte 121", () -> x.type(128));
        C.due("33: is no change", x.told(8), 0);
        C.due("33: told(3)", x.told(3), 120);
    }

    private static void clear() {
        C.says("34", "Returns how many bytes it had.");
        PalletNets x = new PalletNets();
        C.due("34: clear() of nothing", x.clear(), 0);
        x.type('p');
        x.type('1');
        C.due("34: clear()", x.clear(), 2);
        C.due("34: told(3)", x.told(3), 0);
        C.due("34: clear() again", x.clear(), 0);
        C.due("34: is no change", x.told(8), 0);
        C.says("34", "Empties the text.");
        C.due("34: the next byte is the first", x.type('x'), 1);
        C.due("34: nothing is left of it", x.reads(), -10);
        Checks.text(x, "p1;p2;");
        C.due("34: a shorter text ends where it ends", Checks.read(x, "p1"), -12);
    }

    private static void right() {
        C.says("35", "Returns the number of orders;");
        orders("p1;", 1);
        orders("p0;", 1);
        orders("p15;", 1);
        orders("p05;", 1);
        orders("p00;", 1);
        orders("  p  7  ;  ", 1);
        orders("p1;p2;p3;", 3);
        orders("t1>;", 1);
        orders(" t 1 > ; ", 1);
        orders("p1;t100>00;", 2);
        orders("p1;p1;t1 0 1 0 1 > 1 0 1 0;", 3);
        orders("p1;l10;", 2);
        orders("p1; l 9 0 0 0 0 ;", 2);
        orders("p1;g0/1;", 2);
        orders("p9; g 0 0 0 / 9 ;", 2);
        orders("p2;p3;g01/5;", 3);
        orders("p1;" + " ".repeat(114) + "p2;", 2);
    }

    private static void placeErrors() {
        C.says("35", "-10 - p if the text has an error at position p.");
        error("", 0);
        error("   ", 3);
        error("p", 1);
        error("p ", 2);
        error("p1", 2);
        error("p1 ", 3);
        error("p16;", 1);
        error("p 16;", 2);
        error("p16", 1);
        error("p99x", 1);
        error("p100;", 1);
        error("p015;", 1);
        error("p000", 1);
        error("p 0000000", 2);
        error("p1 5;", 3);
        error("p1 6;", 3);
        error("p;", 1);
        error("px", 1);
        error("p-1;", 1);
        error("p:;", 1);
        error("p/;", 1);
        error("p1x;", 2);
        error("p 1x", 3);
        error("p1;;", 3);
        error("p1;x", 3);
        error("p1;p", 4);
        error("q", 0);
        error("P1;", 0);
        error("1", 0);
        error(";", 0);
        error(" ;", 1);
        error("p\t1;", 1);
        error("p1;\0", 3);
    }

    private static void stepErrors() {
        error("t", 1);
        error("t>;", 1);
        error("t1", 2);
        error("t1;", 2);
        error("t1>", 3);
        error("t1>>", 3);
        error("t1>x", 3);
        error("t1/;", 2);
        error("t:>;", 1);
        error("t/>;", 1);
        error("t1 0>;", 3);
        error("t1>0;", 3);
        error("t12>;", 2);
        error("p1;t11>;", 5);
        error("p1;t1000>;", 7);
        error("p1;t1>000;", 8);
        error("p1;p1;t1 0101 0>;", 14);
        error("p1;t100>00", 10);
        error("p1;t9>1;", 6);
    }

    private static void lineErrors() {
        error("l", 1);
        error("l1", 2);
        error("l1 0;", 3);
        error("p1;l0 0;", 4);
        error("p1;lx", 4);
        error("p1;l:0;", 4);
        error("p1;l;", 4);
        error("p1;l1", 5);
        error("p1;l1;", 5);
        error("p1;l1 ;", 6);
        error("p1;l1x", 5);
        error("p1;l1 1;", 6);
        error("p1;l1 0", 7);
        error("p1;l1 0>;", 7);
        error("p1;l1 0000", 10);
        error("p1;l1 00000;", 10);
        error("p1;l1 00001;", 10);
        orders("p1;l1 0000;", 2);
        // six places and five steps, then five more of each
        error("p1;l1 0000;l1 0000;", 11);
        error("p1;l1 0000;l1 0000", 18);
        error("p1;l1 0000;l1 0000x", 18);
        error("p1;l1 0000;l1 0006;", 17);
        error("p1;l1 0000;l0 0000;", 12);
        error("p1;l1 0000;l1 00000;", 18);
    }

    private static void guardErrors() {
        error("g", 1);
        error("g0/1;", 1);
        error("p9;g", 4);
        error("p9;g/1;", 4);
        error("p9;g;", 4);
        error("p9;g0", 5);
        error("p9;g0;", 5);
        error("p9;g1/1;", 4);
        error("p9;g0 1/1;", 6);
        error("p9;g0/", 6);
        error("p9;g0/;", 6);
        error("p9;g0/0;", 6);
        error("p9;g0/1", 7);
        error("p9;g0/10;", 7);
        error("p9;g0/x", 6);
        error("p9;g0/:;", 6);
        error("p2;g0/3;", 3);
        error("p2; g 0 0 / 3 ;", 4);
        error("p2;g0/3", 7);
        error("p2;g0/3x", 7);
        error("p2;g0/3 3;", 8);
        error("p2;p3;g01/6;", 6);
        error("p2;p3;g011/6;", 6);
        error("p0;g0/1;", 3);
    }

    private static void limits() {
        orders("p1;".repeat(10), 10);
        error("p1;".repeat(10) + "p1;", 30);
        error("p1;".repeat(10) + "p", 30);
        error("p1;".repeat(10) + " pz", 31);
        error("p1;".repeat(40), 30);
        orders("t0>;".repeat(8), 8);
        error("t0>;".repeat(8) + "t0>;", 32);
        error("t0>;".repeat(8) + "t", 32);
        error("t0>;".repeat(8) + "tz", 32);
        orders("p9;" + "g0/1;".repeat(5), 6);
        error("p9;" + "g0/1;".repeat(5) + "g0/1;", 28);
        error("p9;" + "g0/1;".repeat(5) + "g", 28);
        error("p9;" + "g0/1;".repeat(5) + "gz", 28);
        orders("p9;" + "g0/1;".repeat(5) + "p1;g0/1;", 8);
        orders("p9;" + "g0/1;".repeat(5) + "t1>;g0/1;", 8);
        orders("p9;" + "g0/1;".repeat(5) + "l10;g0/1;", 8);
        orders("p1;" + "t0>;".repeat(6) + "l1 0;", 8);
        error("p1;" + "t0>;".repeat(7) + "l1 0;", 31);
        orders("p1;".repeat(8) + "l1 7;", 9);
        error("p1;".repeat(9) + "l1 8;", 27);
        error("p1;".repeat(9) + "l1 9;", 30);
        orders("p1;l1 000;l1 000;", 3);
    }

    private static void effects() {
        C.says("35", "Carries out the orders of the text, which stays.");
        PalletNets x = orders("p3;p12;t7 0 1 0>1 1;g01/9;", 4);
        C.due("35: start of 0", x.of(0, 0), 3);
        C.due("35: start of 1", x.of(1, 0), 12);
        C.due("35: cost", x.stepOf(0, 0), 7);
        C.due("35: arcOf(0, 0, 0)", x.arcOf(0, 0, 0), 2);
        C.due("35: arcOf(0, 1, 0)", x.arcOf(0, 1, 0), 1);
        C.due("35: arcOf(0, 0, 1)", x.arcOf(0, 0, 1), 0);
        C.due("35: arcOf(0, 1, 1)", x.arcOf(0, 1, 1), 2);
        C.due("35: guardOf(0, 0)", x.guardOf(0, 0), 3);
        C.due("35: guardOf(0, 1)", x.guardOf(0, 1), 9);
        C.due("35: present of 1", x.of(1, 1), 12);
        C.due("35: reads() again", x.reads(), 4);
        C.due("35: twice as many places", x.told(4), 4);
        C.due("35: the guard of the second time alone", x.told(6), 1);
        C.due("35: back()", x.back(), 1);
        C.due("35: back()", x.back(), 0);
        C.due("35: nothing is left", x.told(4) + x.told(5) + x.told(6), 0);
        C.due("35: but the text", x.told(3), 26);

        PalletNets one = orders("p1;l4 0;", 2);
        int[][] takes = {{1, 1, 0}, {0, 0, 1}};
        int[][] gives = {{0, 0, 1}, {1, 1, 0}};
        C.due("35: the store", one.of(1, 0), 4);
        for (int t = 0; t < 2; t++) {
            C.due("35: cost of a line's step", one.stepOf(t, 0), 1);
            for (int p = 0; p < 3; p++) {
                C.due("35: line of one machine, takes", one.arcOf(t, p, 0), takes[t][p]);
                C.due("35: line of one machine, gives", one.arcOf(t, p, 1), gives[t][p]);
            }
        }
        PalletNets two = orders("p1;p2;l9 1 0;", 3);
        PalletNets same = new PalletNets();
        same.place(1);
        same.place(2);
        same.line(9, 1, 0);
        for (int t = 0; t < 3; t++) {
            for (int p = 0; p < 5; p++) {
                C.due("35: l as line(), takes", two.arcOf(t, p, 0), same.arcOf(t, p, 0));
                C.due("35: l as line(), gives", two.arcOf(t, p, 1), same.arcOf(t, p, 1));
            }
        }
        PalletNets four = orders("p1;p1;p1;l2 0121;", 4);
        C.due("35: step 3 of four machines takes q2 and m3", four.arcOf(2, 5, 0) + four.arcOf(2, 2, 0), 2);
        C.due("35: step 3 gives q3 and m2", four.arcOf(2, 6, 1) + four.arcOf(2, 1, 1), 2);
        C.due("35: the last takes q4", four.arcOf(4, 7, 0), 1);
        C.due("35: the last gives the store and m4", four.arcOf(4, 3, 1) + four.arcOf(4, 1, 1), 2);
    }

    private static void renewing() {
        C.says("35", "This is one change, if the text has no error;");
        for (String text : new String[] {"p1;", "t1>;", "l10;"}) {
            PalletNets x = Checks.worn();
            Checks.read(x, text);
            x.clear();
            C.renewed(x, "35: reads() of " + text, 1);
        }
        PalletNets x = Checks.worn();
        C.due("35: a guard alone", Checks.read(x, "g0/1;"), 1);
        C.due("35: a guard more", x.told(6), 2);
        C.due("35: renews nothing: lost", x.of(1, 2), 1);
        C.due("35: renews nothing: present", x.of(2, 1), 1);
        C.due("35: is a change", x.told(8), 5);
        error(x, "g1/2;", 0);
        C.due("35: after a renewal the lost token is home", Checks.read(x, "t1>;g1/2;"), 2);
        PalletNets full = Checks.net("p9;" + "g0/1;".repeat(5));
        error(full, "g0/1;", 0);
        error(full, " g", 1);
        C.due("35: after a renewal there is room", Checks.read(full, "t1>;g0/1;"), 2);
        C.due("35: for one guard", full.told(6), 1);
        PalletNets half = Checks.worn();
        error(half, "p1;t1>;g0/1;x", 12);
        C.due("35: guards stay", half.told(6), 1);
        PalletNets moved = Checks.net("p3;t1 0>;");
        moved.goes(0);
        C.due("35: home counts, not the present marking", Checks.read(moved, "g0/3;"), 1);
    }
}
