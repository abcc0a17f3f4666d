/** As much as there can be: 10 places, 8 steps, 5 guards, 15 tokens, 120 bytes, 200 markings, 5 states kept. */
public final class FullTest {
    private static final int BAD = PalletNets.BAD, NO = PalletNets.NO, FULL = PalletNets.FULL;
    private static final Checks C = new Checks("FullTest");

    public static void main(String[] args) {
        places();
        steps();
        lines();
        everything();
        guards();
        guardsOfSiphons();
        bytes();
        markings();
        markingsLeftOut();
        waysLeftOut();
        states();
        C.end();
    }

    private static void places() {
        PalletNets x = Checks.net("p1;".repeat(9));
        C.due("the tenth place", x.place(15), 9);
        C.refusesAll(() -> Checks.net("p1;".repeat(10)), FULL, "an eleventh place", y -> y.place(0));
        C.refusesAll(() -> Checks.net("p1;".repeat(10)), BAD, "an eleventh with a wrong start", y -> y.place(16));
        C.refusesAll(() -> Checks.net("p1;".repeat(10)), BAD, "an eleventh with a wrong start", y -> y.place(-1));
        C.due("its number", x.of(9, 0), 15);
        C.due("the last one's arc", Checks.net("p1;".repeat(10) + "t0 99>9;").arcOf(0, 9, 0), 2);
        x.back();
        C.due("after back() there is room again", x.place(3), 9);
        x.anew();
        C.due("after anew() there is room again", x.place(3), 0);
    }

    private static void steps() {
        PalletNets x = Checks.net("t1>;".repeat(7));
        C.due("the eighth step", x.step(9), 7);
        C.refusesAll(() -> Checks.net("t1>;".repeat(8)), FULL, "a ninth step", y -> y.step(0));
        C.refusesAll(() -> Checks.net("t1>;".repeat(8)), BAD, "a ninth with a wrong cost", y -> y.step(10));
        C.refusesAll(() -> Checks.net("t1>;".repeat(8)), BAD, "a ninth with a wrong cost", y -> y.step(-1));
        C.due("its cost", x.stepOf(7, 0), 9);
        C.due("all of them can go", x.all(4), 255);
        x.back();
        C.due("after back() there is room again", x.step(3), 7);
        x.anew();
        C.due("after anew() there is room again", x.step(3), 0);
    }

    private static void lines() {
        C.due("7 places and 3", Checks.net("p1;".repeat(7)).line(9, 0, 6), 7);
        C.refusesAll(() -> Checks.net("p1;".repeat(8)), FULL, "8 places and 3", y -> y.line(9, 0, 7));
        C.refusesAll(() -> Checks.net("p1;".repeat(10)), FULL, "10 places and 3", y -> y.line(9, 0, 9));
        C.due("5 steps and 3", Checks.net("p1;" + "t0>;".repeat(5)).line(9, 0, 0), 1);
        C.refusesAll(() -> Checks.net("p1;" + "t0>;".repeat(6)), FULL, "6 steps and 3", y -> y.line(9, 0, 0));
        C.refusesAll(() -> Checks.net("p1;" + "t0>;".repeat(8)), FULL, "8 steps and 3", y -> y.line(9, 0, 0));
        C.refusesAll(() -> Checks.net("p1;".repeat(8)), BAD, "8 places and 3, no pallet", y -> y.line(0, 0, 0));
        C.refusesAll(() -> Checks.net("p1;".repeat(8)), BAD, "8 places and 3, too many pallets", y -> y.line(10, 0, 0));
        C.refusesAll(() -> Checks.net("p1;".repeat(8)), BAD, "8 places and 3, no such machine", y -> y.line(1, 8, 0));
        C.refusesAll(() -> Checks.net("p1;".repeat(8)), BAD, "8 places and 3, no such machine", y -> y.line(1, 0, 8));
        PalletNets x = Checks.net("p1;".repeat(7) + "t0>;".repeat(5));
        C.due("both to the brim", x.line(9, 0, 6), 7);
        C.due("10 places", x.told(4), 10);
        C.due("8 steps", x.told(5), 8);
    }

    /** Ten places of 15 tokens, eight steps that take and give two of each: the greatest numbers there are. */
    private static void everything() {
        String all = "00112233445566778899";
        PalletNets x = Checks.net("p15;".repeat(10) + "t9" + all + ">" + all + ";");
        for (int t = 1; t < 8; t++) {
            x.step(9);
            for (int p = 0; p < 10; p++) {
                x.arc(t, p, 0, 2);
                x.arc(t, p, 1, 2);
            }
        }
        C.due("tokens of all places", x.restarts(), 150);
        C.due("all(5)", x.all(5), 150);
        C.due("stepOf(7, 1)", x.stepOf(7, 1), 20);
        C.due("stepOf(7, 2)", x.stepOf(7, 2), 20);
        C.due("found(0, 0)", x.found(0, 0), 0xffffffffffL);
        C.due("found(0, 3)", x.found(0, 3), 255);
        C.due("sums(): each place by itself", x.sums(), 10);
        C.due("stucks(): each place by itself", x.stucks(), 10);
        C.due("goes(7)", x.goes(7), 8);
        C.due("sort(1023)", x.sort(1023), 3);
        C.due("guard(1023, 9)", x.guard(1023, 9), 0);
        C.due("guardOf(0, 2)", x.guardOf(0, 2), 150);
        for (int p = 0; p < 10; p++) {
            C.due("of(" + p + ", 3)", x.of(p, 3), 15);
            C.due("of(" + p + ", 4)", x.of(p, 4), 15);
            C.due("of(" + p + ", 5)", x.of(p, 5), 15);
        }
        PalletNets lost = Checks.net("p15;");
        for (int left = 14; left >= 0; left--) {
            C.due("loses(0)", lost.loses(0), left);
        }
        C.due("all 15 are lost", lost.of(0, 2), 15);
        C.due("home is empty", lost.restarts(), 0);
        C.refuses(lost, NO, "a sixteenth", () -> lost.loses(0));
        for (int left = 14; left >= 0; left--) {
            C.due("returns(0)", lost.returns(0), left);
        }
        C.due("all are there again", lost.of(0, 1), 15);
    }

    private static PalletNets guarded(int guards) {
        return Checks.net("p9;p9;t0 0>;" + "g0/1;".repeat(guards));
    }

    private static void guards() {
        C.due("the fifth guard", guarded(4).guard(3, 9), 4);
        C.refusesAll(() -> guarded(5), FULL, "a sixth guard", y -> y.guard(1, 1));
        C.refusesAll(() -> Checks.net("p3;p9;" + "g0/1;".repeat(5)), NO, "a sixth for lack of tokens", y -> y.guard(1, 4));
        C.refusesAll(() -> guarded(5), BAD, "a sixth guard of no place", y -> y.guard(0, 1));
        C.refusesAll(() -> guarded(5), BAD, "a sixth guard of no such place", y -> y.guard(4, 1));
        C.refusesAll(() -> guarded(5), BAD, "a sixth guard of no token", y -> y.guard(1, 0));
        C.refusesAll(() -> guarded(5), BAD, "a sixth guard of too many tokens", y -> y.guard(1, 10));
        PalletNets x = guarded(5);
        C.due("drop(4)", x.drop(4), 4);
        C.due("then there is room again", x.guard(2, 2), 4);
    }

    private static void guardsOfSiphons() {
        String drains = "p1;p1;p1;p1;p1;p1;t0 0>;t0 1>;t0 2>;t0 3>;t0 4>;t0 5>;";
        for (int there = 0; there <= 5; there++) {
            PalletNets x = Checks.net(drains);
            for (int g = 0; g < there; g++) {
                x.guard(63, 1 + g);
            }
            C.due("guards() with " + there + " there", x.guards(), 5 - there);
            C.due("five of them then", x.told(6), 5);
            for (int g = there; g < 5; g++) {
                C.due("the lowest siphons come first", x.guardOf(g, 0), 1 << (g - there));
            }
        }
    }

    private static void bytes() {
        PalletNets x = new PalletNets();
        for (int n = 1; n <= 120; n++) {
            C.due("byte " + n, x.type(n == 118 ? 'p' : n == 119 ? '7' : n == 120 ? ';' : ' '), n);
        }
        C.refuses(x, FULL, "byte 121", () -> x.type(' '));
        C.refuses(x, FULL, "byte 121 of code 0", () -> x.type(0));
        C.refuses(x, FULL, "byte 121 of code 127", () -> x.type(127));
        C.refuses(x, BAD, "byte 121 of code 128", () -> x.type(128));
        C.refuses(x, BAD, "byte 121 of code -1", () -> x.type(-1));
        C.due("all 120 are read, and byte 121 is not there", x.reads(), 1);
        C.due("its start", x.of(0, 0), 7);
        C.due("clear()", x.clear(), 120);
        C.due("then there is room again", x.type('p'), 1);
        error("the last byte", " ".repeat(119) + "x", 119);
        error("the end of 120 bytes", " ".repeat(119) + "p", 120);
        error("the end of 120 bytes", "p1;" + " ".repeat(115) + "t1", 120);
        error("the letter at the end of 120 bytes", "p1;" + " ".repeat(112) + "g0/2;", 115);
        error("the end of 120 bytes", "p7;g" + "0".repeat(116), 120);
        C.due("the only place 113 times", Checks.read(new PalletNets(), "p7;g" + "0".repeat(113) + "/7;"), 2);
        C.due("eight steps and spaces", Checks.read(new PalletNets(), "t0>;".repeat(8) + " ".repeat(88)), 8);
    }

    private static void error(String at, String text, int position) {
        PalletNets x = new PalletNets();
        C.due("an error at " + at, Checks.read(x, text), -10 - position);
        C.due("an error at " + at + " makes nothing", x.told(4) + x.told(5) + x.told(6) + x.told(8), 0);
    }

    /** Nets from which exactly 199, 200 and 201 markings can be reached. */
    private static void markings() {
        PalletNets x = new PalletNets();
        C.due("199 markings", x.draw(3524, 4, 3), 199);
        C.due("199 markings: all(0)", x.all(0), 199);
        C.due("199 markings: complete", x.all(1), 1);
        C.none(x, "199 markings: found(199, 0)", () -> x.found(199, 0));
        C.due("200 markings", x.draw(242, 4, 3), 200);
        C.due("200 markings: complete", x.all(1), 1);
        C.isTrue("200 markings: found(199, 0)", x.found(199, 0) > 0);
        C.none(x, "200 markings: found(200, 0)", () -> x.found(200, 0));
        C.due("201 markings", x.draw(2916, 4, 3), 200);
        C.due("201 markings: not complete", x.all(1), 0);
        C.none(x, "201 markings: found(200, 0)", () -> x.found(200, 0));
    }

    /** What only lies past the 200th marking does not count. */
    private static void markingsLeftOut() {
        // up to the sum 8 there are 165 markings; 35 of the sum 9 follow, from (9, 0, 0) to (2, 1, 6)
        PalletNets x = Checks.net("p0;p0;p0;t0>0;t0>1;t0>2;");
        C.due("of(0, 4)", x.of(0, 4), 9);
        C.due("of(1, 4)", x.of(1, 4), 8);
        C.due("of(2, 4)", x.of(2, 4), 8);
        C.due("all(5)", x.all(5), 9);
        C.due("found(164, 0)", x.found(164, 0), 0x800);
        C.due("found(165, 0)", x.found(165, 0), 0x009);
        C.due("found(199, 0)", x.found(199, 0), 0x612);
        C.due("found(199, 1)", x.found(199, 1), 9);
        C.due("found(199, 3), though all lead out", x.found(199, 3), 7);
        C.due("all(2), for steps that lead out can go all the same", x.all(2), 0);
        PalletNets y = Checks.net("p15;p15;p15;t0 0>;t0 1>;t0 2>;");
        int[] least = {6, 7, 7};
        for (int p = 0; p < 3; p++) {
            C.due("of(" + p + ", 5)", y.of(p, 5), least[p]);
            C.due("stuck(" + p + ", 5)", y.stuck(p, 5), least[p]);
        }
        y.guard(1, 6);
        C.due("a guard for what comes only past the 200th is not needed", y.guardOf(0, 4), 1);
        y.drop(0);
        y.guard(1, 7);
        C.due("one for what comes before it is", y.guardOf(0, 4), 0);
    }

    /** Ways that only lead over markings past the 200th do not count. */
    private static void waysLeftOut() {
        // ten tokens in a ring of four places: 286 markings, from all of which home can be reached
        PalletNets ring = Checks.net("p10;p0;p0;p0;t0 0>1;t0 1>2;t0 2>3;t0 3>0;");
        C.due("all(3)", ring.all(3), 2);
        C.due("found(187, 0)", ring.found(187, 0), 0x0820);
        C.due("found(187, 2)", ring.found(187, 2), 0);
        C.due("found(187, 3), though steps can go", ring.found(187, 3), 6);
        C.due("found(192, 0)", ring.found(192, 0), 0x0901);
        C.due("found(192, 2)", ring.found(192, 2), 0);
        C.due("found(191, 2)", ring.found(191, 2), 1);
        C.due("found(199, 2)", ring.found(199, 2), 1);
        // in a field of 16 by 16 markings home is the 200th from (3, 12), and would be the 201st from (3, 13)
        PalletNets field = Checks.net("p0;p0;t0 0>;t0 1>;t0>0;t0>1;");
        for (int i = 0; i < 14; i++) {
            field.goes(i < 3 ? 2 : 3);
        }
        field.keeper(1);
        C.due("to (3, 12) the keeper lets go", field.can(3), 0);
        C.due("goes(3)", field.goes(3), 4);
        C.due("home(0)", field.home(0), 0);
        C.due("home(1)", field.home(1), 15);
        C.due("home(2)", field.home(2), 0);
        C.due("to (3, 13) it does not", field.can(3), 4);
        C.refuses(field, NO, "goes(3)", () -> field.goes(3));
        field.keeper(0);
        C.due("without the keeper", field.goes(3), 4);
        for (int what = 0; what <= 2; what++) {
            int w = what;
            C.none(field, "home(" + w + ") from (3, 13)", () -> field.home(w));
        }
        field.keeper(1);
        C.due("back to (3, 12) it lets go", field.can(1), 0);
    }

    private static void states() {
        for (int changes = 0; changes <= 8; changes++) {
            PalletNets x = new PalletNets();
            for (int n = 0; n < changes; n++) {
                C.due("place " + n, x.place(n), n);
            }
            int kept = Math.min(5, changes);
            C.due("states kept after " + changes + " changes", x.told(8), kept);
            for (int left = kept - 1; left >= 0; left--) {
                C.due("back()", x.back(), left);
                C.due("the latest comes first", x.told(4), changes - kept + left);
            }
            C.refuses(x, NO, "back() past the oldest of " + changes, x::back);
        }
    }
}
