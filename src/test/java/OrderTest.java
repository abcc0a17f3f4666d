/** What the document says of the text, its orders and its error position, sentence by sentence. */
public final class OrderTest {
    private static final int FULL = PalletNets.FULL;
    private static final String DIGITS = "0123456789";
    private static final Checks C = new Checks("OrderTest");

    public static void main(String[] args) {
        bytes();
        orders();
        forms();
        numbers();
        spaces();
        carriedOut();
        firstWrongByte();
        everyByte();
        wrongStarts();
        wrongPlaces();
        tooMany();
        lettersOfWholeOrders();
        endsTooEarly();
        C.end();
    }

    private static int read(String text) {
        return Checks.read(new PalletNets(), text);
    }

    private static PalletNets right(String text, int orders) {
        PalletNets x = new PalletNets();
        C.due("'" + text + "'", Checks.read(x, text), orders);
        return x;
    }

    private static void wrong(String text, int position) {
        PalletNets x = new PalletNets();
        C.due("'" + text + "'", Checks.read(x, text), -10 - position);
        C.due("'" + text + "' makes nothing", x.told(4) + x.told(5) + x.told(6) + x.told(8), 0);
        C.due("'" + text + "' is no refusal", x.told(0) + x.told(1) + x.told(2), 0);
        C.due("'" + text + "' stays", x.told(3), text.length());
    }

    private static void bytes() {
        C.says("D", "The text has at most 120 bytes.");
        PalletNets x = new PalletNets();
        Checks.text(x, " ".repeat(117) + "p1;");
        C.due("120 bytes", x.told(3), 120);
        C.due("byte 121", x.type(' '), FULL);
        C.due("all of them are read", x.reads(), 1);
        PalletNets y = new PalletNets();
        Checks.text(y, " ".repeat(118) + "p1;");
        C.due("the last of 121 bytes is not there", y.reads(), -130);
    }

    private static void orders() {
        C.says("D", "It consists of one or more orders, each followed by a semicolon:");
        wrong("", 0);
        right("p1;", 1);
        right("p1;p1;", 2);
        right("p1;t1 0>0;l10;g0/1;", 4);
        right("p1;" + "t1>;".repeat(8), 9);
        wrong("p1", 2);
        wrong("p1;p1", 5);
        wrong("p1p1;", 2);
        wrong("p1,p1;", 2);
        wrong("p1;;", 3);
        wrong(";p1;", 0);
        // an order with g does not renew, so only five of them fit between those that do
        right("p1;" + "g0/1;g0/1;g0/1;g0/1;g0/1;t1>;".repeat(3) + "g0/1;g0/1;g0/1;g0/1;g0/1;", 24);
    }

    private static void forms() {
        C.says("D", "p v a new place with the start v, as place()");
        for (int v = 0; v <= 15; v++) {
            PalletNets x = right("p" + v + ";p0;", 2);
            C.due("its start", x.of(0, 0), v);
            C.due("its tokens", x.of(0, 1), v);
        }
        C.says("D", "t c A > B a new step with the cost c, as step(); A are the places from which it takes a token, B those to which it "
            + "gives a token (any number of them each; a place that is written twice counts for two tokens)");
        for (int c = 0; c <= 9; c++) {
            PalletNets x = right("p1;t" + c + "0>00;", 2);
            C.due("its cost", x.stepOf(0, 0), c);
            C.due("it takes once", x.arcOf(0, 0, 0), 1);
            C.due("it gives twice", x.arcOf(0, 0, 1), 2);
        }
        right("t0>;", 1);
        PalletNets all = right("p1;".repeat(10) + "t0 01234567899876543210>98765432100123456789;", 11);
        for (int p = 0; p < 10; p++) {
            C.due("takes twice from " + p, all.arcOf(0, p, 0), 2);
            C.due("gives twice to " + p, all.arcOf(0, p, 1), 2);
        }
        C.due("takes nothing, gives nothing", right("p1;t0>;", 2).stepOf(0, 1), 0);
        C.says("D", "l k M a line of k pallets (1 to 9) through the places M, 1 to 4 of them");
        for (int k = 1; k <= 9; k++) {
            C.due("the store's start", right("p1;l" + k + "0;", 2).of(1, 0), k);
        }
        wrong("p1;l00;", 4);
        wrong("p1;l1;", 5);
        for (int n = 1; n <= 4; n++) {
            PalletNets x = right("p1;l1" + "0".repeat(n) + ";", 2);
            C.due("places of a line of " + n, x.told(4), n + 2);
            C.due("steps of a line of " + n, x.told(5), n + 1);
        }
        wrong("p1;l100000;", 9);
        C.says("D", "g S / n a guard for the set of the places S, one or more (it does not matter if one is repeated), with the least "
            + "number n, as guard()");
        for (int n = 1; n <= 9; n++) {
            PalletNets x = right("p9;p9;g1/" + n + ";", 3);
            C.due("its places", x.guardOf(0, 0), 2);
            C.due("its least number", x.guardOf(0, 1), n);
        }
        wrong("p9;g/1;", 4);
        wrong("p9;g0/0;", 6);
        C.due("all ten places", right("p1;".repeat(10) + "g9876543210/9;", 11).guardOf(0, 0), 1023);
        PalletNets again = right("p2;p3;g" + "01".repeat(50) + "/5;", 3);
        C.due("repeated ones count once: places", again.guardOf(0, 0), 3);
        C.due("repeated ones count once: tokens", again.guardOf(0, 2), 5);
        wrong("p2;p3;g" + "01".repeat(50) + "/6;", 6);
    }

    private static void numbers() {
        C.says("D", "v has one or two digits, all other numbers have exactly one digit; places must exist after the orders before.");
        C.due("one digit", right("p7;", 1).of(0, 0), 7);
        C.due("two digits", right("p07;", 1).of(0, 0), 7);
        C.due("two digits", right("p00;", 1).of(0, 0), 0);
        wrong("p;", 1);
        wrong("p007;", 1);
        wrong("t>;", 1);
        wrong("t10>;", 2);
        right("p1;t10>;", 2);
        wrong("p1;t12>;", 5);
        wrong("p1;l 0;", 5);
        wrong("p1;l120;", 5);
        wrong("p1;g0/;", 6);
        wrong("p1;g0/11;", 7);
        wrong("t00>;p1;", 2);
        wrong("p1;t0 1>;p1;", 6);
        wrong("p1;t0>1;p1;", 6);
        wrong("p1;l11;p1;", 5);
        wrong("p1;g1/1;p1;", 4);
        // a line's own places exist only after it
        wrong("p1;l101;", 6);
        right("p1;l10;t012>12;g12/1;", 4);
        wrong("p1;l10;t013>;", 10);
    }

    private static void spaces() {
        C.says("D", "Any number of spaces (code 32) can stand anywhere except within v; none are needed.");
        String none = "p15;p3;t701>10;l20;g01/9;";
        long dense = Checks.content(right(none, 5));
        PalletNets loose = right(" p 15 ; p  3 ; t 7 0 1 > 1 0 ; l 2 0 ; g 0 1 / 9 ; ", 5);
        C.due("the same net", Checks.content(loose), dense);
        for (int at = 0; at <= none.length(); at++) {
            for (int n : new int[] {1, 40}) {
                String text = none.substring(0, at) + " ".repeat(n) + none.substring(at);
                if (at == 2) {
                    wrong(text, at + n);
                } else {
                    C.due(n + " spaces at " + at, Checks.content(right(text, 5)), dense);
                }
            }
        }
        for (int code : new int[] {0, 9, 10, 13, 31, 33, 127}) {
            for (int at = 0; at <= none.length(); at++) {
                wrong(none.substring(0, at) + (char) code + none.substring(at), at);
            }
        }
    }

    private static void carriedOut() {
        C.says("D", "The orders are carried out one after the other, as by the methods; those with p, t and l renew the net (see below), "
            + "those with g do not.");
        for (String order : new String[] {"p1;", "t1>;", "l10;"}) {
            PalletNets x = Checks.worn();
            C.due(order, Checks.read(x, order), 1);
            C.due(order + " removes guards", x.told(6), 0);
            C.due(order + " brings lost tokens back", x.of(1, 2), 0);
            C.due(order + " brings moved tokens back", x.of(2, 1), 0);
            PalletNets y = Checks.worn();
            C.due("g0/1;" + order, Checks.read(y, "g0/1;" + order), 2);
            C.due("the guard is gone with it", y.told(6), 0);
            PalletNets z = Checks.worn();
            C.due(order + "g0/1;", Checks.read(z, order + "g0/1;"), 2);
            C.due("the guard comes after it", z.told(6), 1);
        }
        PalletNets x = Checks.worn();
        C.due("g0/1;", Checks.read(x, "g0/1;"), 1);
        C.due("guards stay", x.told(6), 2);
        C.due("lost tokens stay", x.of(1, 2), 1);
        C.due("moved tokens stay", x.of(2, 1), 1);
        C.due("the keeper stays", x.told(7), 1);
        // the two tokens of place 1 are at home again after an order that renews
        C.due("g1/2; with one of two tokens lost", Checks.read(x, "g1/2;"), -10);
        C.due("t1>;g1/2;", Checks.read(x, "t1>;g1/2;"), 2);
    }

    private static void firstWrongByte() {
        C.says("D", "The error position is the index, from 0, of the first byte that cannot stand at its place.");
        String text = " p 15 ; p3;t7 0 1>10; l 20;g01/9; ";
        C.due(text, read(text), 5);
        for (int at = 0; at < text.length(); at++) {
            for (char c : new char[] {'x', 'P', 0, 127}) {
                wrong(text.substring(0, at) + c + text.substring(at + 1), at);
                wrong(text.substring(0, at) + c, at);
                wrong(text.substring(0, at) + c + c, at);
            }
        }
    }

    /** After this text these bytes can stand, and no others. */
    private static void follow(String text, String bytes) {
        for (int code = 0; code <= 127; code++) {
            String longer = text + (char) code;
            if (bytes.indexOf(code) < 0) {
                wrong(longer, text.length());
            } else if (!longer.trim().endsWith(";")) {
                wrong(longer, longer.length());
            } else {
                C.isTrue("'" + longer + "' is right", read(longer) > 0);
            }
        }
    }

    private static void everyByte() {
        String two = "p9;p2;";
        follow("", " ptlg");
        follow(" ", " ptlg");
        follow(two, " ptlg");
        follow(two + " ", " ptlg");
        follow("p", " " + DIGITS);
        follow("p ", " " + DIGITS);
        follow("p0", " ;" + DIGITS);
        follow("p1 ", " ;");
        follow(two + "t", " " + DIGITS);
        follow(two + "t1", " 01>");
        follow(two + "t1 ", " 01>");
        follow(two + "t10", " 01>");
        follow(two + "t100", " 1>");
        follow(two + "t11010", " >");
        follow(two + "t1>", " 01;");
        follow(two + "t1100>1", " 01;");
        follow(two + "t1100>1 1", " 0;");
        follow(two + "t1>0110", " ;");
        follow(two + "l", " 123456789");
        follow(two + "l1", " 01");
        follow(two + "l1 ", " 01");
        follow(two + "l10", " 01;");
        follow(two + "l1011", " 01;");
        follow(two + "l1 0110", " ;");
        follow(two + "g", " 01");
        follow(two + "g0", " 01/");
        follow(two + "g0000 ", " 01/");
        follow(two + "g01/", " 123456789");
        follow(two + "g01/ 9", " ;");
        follow("t1", " >");
        follow("t1>", " ;");
        follow("l1", " ");
        follow("g", " ");
        follow("p1;".repeat(10), " tlg");
        follow("t1>;".repeat(8), " plg");
        follow("p1;" + "g0/1;".repeat(5), " ptl");
        follow("p1;".repeat(10) + "t0", " >" + DIGITS);
    }

    private static void wrongStarts() {
        C.says("D", "This includes: for a v that is above 15 or has more than two digits, its first byte;");
        for (int v = 16; v <= 99; v++) {
            wrong("p" + v + ";", 1);
        }
        for (String v : new String[] {"000", "001", "015", "100", "150", "999", "0000000000"}) {
            wrong("p" + v + ";", 1);
            wrong("p" + v, 1);
            wrong("p   " + v + "  ;", 4);
            wrong("p1;p1; p " + v + "x", 9);
        }
        wrong("p16", 1);
        wrong("p16x", 1);
        wrong("p16 1;", 1);
        wrong("p15x", 3);
        wrong("p15 1;", 4);
    }

    private static void wrongPlaces() {
        C.says("D", "the digit of a place that does not exist, or is written a third time in A or in B;");
        for (int places = 0; places <= 9; places++) {
            String net = "p9;".repeat(places);
            int n = net.length();
            wrong(net + "t1" + places + ">;", n + 2);
            wrong(net + "t1>" + places + ";", n + 3);
            wrong(net + "l1" + places + ";", n + 2);
            wrong(net + "g" + places + "/1;", n + 1);
            if (places > 0) {
                int last = places - 1;
                right(net + "t1" + last + ">;", places + 1);
                right(net + "t1>" + last + ";", places + 1);
                right(net + "g" + last + "/1;", places + 1);
                wrong(net + "l1 0" + places + ";", n + 4);
                wrong(net + "g0" + places + "/1;", n + 2);
            }
        }
        right("p1;t100>;", 2);
        wrong("p1;t1000>;", 7);
        right("p1;t1>00;", 2);
        wrong("p1;t1>000;", 8);
        right("p1;t100>00;", 2);
        wrong("p1;p1;t1 0 1 0 1 0 > ;", 17);
        wrong("p1;p1;t1 > 0 1 1 0 1 ;", 19);
        wrong("p1;t1000", 7);
        wrong("p1;t1 0000", 8);
        // in a line or a guard a place may come three times and more
        right("p1;l1000;", 2);
        right("p1;g000/1;", 2);
    }

    private static void tooMany() {
        C.says("D", "the letter p of an eleventh place, t of a ninth step, or g of a sixth guard, whatever follows.");
        for (String rest : new String[] {"", " ", "1;", "16;", "x", "0>0;", "0/1;", ";"}) {
            wrong("p1;".repeat(10) + "p" + rest, 30);
            wrong("t1>;".repeat(8) + "t" + rest, 32);
            wrong("p1;" + "g0/1;".repeat(5) + "g" + rest, 28);
            wrong("p1;".repeat(10) + "  p" + rest, 32);
        }
        right("p1;".repeat(10), 10);
        right("t1>;".repeat(8), 8);
        right("p1;" + "g0/1;".repeat(5), 6);
        PalletNets x = new PalletNets();
        for (int n = 0; n < 9; n++) {
            x.place(1);
        }
        C.due("a tenth place is read", Checks.read(x, "p1;"), 1);
        C.due("an eleventh is not", Checks.read(x, "p1;"), -10);
        for (int n = 0; n < 7; n++) {
            x.step(1);
        }
        C.due("an eighth step is read", Checks.read(x, "t1>;"), 1);
        C.due("a ninth is not", Checks.read(x, " t1>;"), -11);
        for (int n = 0; n < 4; n++) {
            x.guard(1, 1);
        }
        C.due("a fifth guard is read", Checks.read(x, "g0/1;"), 1);
        C.due("a sixth is not", Checks.read(x, "  g0/1;"), -12);
        C.due("nor for lack of tokens", Checks.read(x, "  g0/9;"), -12);
    }

    private static void lettersOfWholeOrders() {
        C.says("D", "If the net would get more than 10 places or 8 steps by a line, or the places of a guard have fewer tokens than its "
            + "least number in the home marking, the error position is that of its letter, l or g, provided that the order is correct "
            + "up to its semicolon.");
        for (int machines = 1; machines <= 4; machines++) {
            String line = "l1" + "0".repeat(machines) + ";";
            // a line of n machines adds n + 1 places and n + 1 steps
            String places = "p1;".repeat(10 - machines - 1);
            right(places + line, 10 - machines);
            wrong(places + "p1;" + line, places.length() + 3);
            String steps = "p1;" + "t1>;".repeat(8 - machines - 1);
            right(steps + line, 9 - machines);
            wrong(steps + "t1>;" + line, steps.length() + 4);
        }
        String full = "p1;".repeat(10);
        wrong(full + " l 1 0 ;", 31);
        wrong(full + " l 1 0 ;x", 31);
        wrong(full + " l 1 0 ", 37);
        wrong(full + " l 1 0 x;", 37);
        wrong(full + " l 0 0 ;", 33);
        wrong(full + " l 1 ;", 35);
        wrong(full + " l 1 00000;", 39);
        wrong("p1;".repeat(9) + "l1 9;", 30);
        for (int tokens = 0; tokens <= 9; tokens++) {
            String net = "p" + tokens + ";p1;";
            if (tokens > 0) {
                right(net + "g0/" + tokens + ";", 3);
            }
            if (tokens < 9) {
                wrong(net + "g0/" + (tokens + 1) + ";", 6);
                wrong(net + "g00/" + (tokens + 1) + ";", 6);
                right(net + "g01/" + (tokens + 1) + ";", 3);
                wrong(net + "g0/" + (tokens + 1), 10);
                wrong(net + "g0/" + (tokens + 1) + "x", 10);
            }
        }
        PalletNets lost = Checks.net("p2;t0>0;");
        lost.loses(0);
        lost.goes(0);
        C.due("home has one token left", Checks.read(lost, "g0/2;"), -10);
        C.due("which is enough for one", Checks.read(lost, "g0/1;"), 1);
    }

    private static void endsTooEarly() {
        C.says("D", "If the text ends too early (also if it is empty or consists of spaces only), it is the length of the text.");
        wrong("", 0);
        for (int n = 1; n <= 120; n++) {
            wrong(" ".repeat(n), n);
        }
        String text = "p15;p 3 ;t7 0 1>10; l 2 01;g 01 / 9 ;";
        int orders = 0;
        for (int length = 1; length < text.length(); length++) {
            String begun = text.substring(0, length);
            if (begun.endsWith(";")) {
                orders++;
            }
            if (begun.trim().endsWith(";")) {
                right(begun, orders);
            } else {
                wrong(begun, length);
                wrong(begun + "   ", length + 3);
            }
        }
        right(text, 5);
    }
}
