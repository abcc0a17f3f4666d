/** Nothing there: no places, no steps, no guards, an empty text, a text of spaces only, no state kept. */
public final class EmptyTest {
    private static final int BAD = PalletNets.BAD, NO = PalletNets.NO, NONE = PalletNets.NONE;
    private static final Checks C = new Checks("EmptyTest");

    public static void main(String[] args) {
        nothing();
        nothingAgain();
        changesOfNothing();
        noSteps();
        noPlaces();
        noGuards();
        noTokens();
        noText();
        spacesOnly();
        noStateKept();
        C.end();
    }

    private static void all(String net, PalletNets x, int... due) {
        for (int what = 0; what < due.length; what++) {
            C.due(net + ": all(" + what + ")", x.all(what), due[what]);
        }
    }

    private static void atHome(String net, PalletNets x) {
        C.due(net + ": home(0)", x.home(0), 0);
        C.due(net + ": home(1)", x.home(1), 0);
        C.none(x, net + ": home(2)", () -> x.home(2));
    }

    /** Without places and steps nothing exists that an argument could name, and the empty marking is all there is. */
    private static void nothing() {
        nothingIn("a new object", new PalletNets());
    }

    private static void nothingAgain() {
        PalletNets x = Checks.worn();
        x.anew();
        nothingIn("after anew()", x);
        PalletNets y = Checks.net("p3;t1 0>;");
        y.back();
        nothingIn("after back()", y);
    }

    private static void nothingIn(String when, PalletNets x) {
        for (int what = 0; what <= 5; what++) {
            int w = what;
            C.refuses(x, BAD, when + ": of(0, " + w + ")", () -> x.of(0, w));
            C.none(x, when + ": stuck(0, " + w + ")", () -> x.stuck(0, w));
        }
        C.refuses(x, BAD, when + ": arc(0, 0, 0, 0)", () -> x.arc(0, 0, 0, 0));
        C.refuses(x, BAD, when + ": start(0, 0)", () -> x.start(0, 0));
        C.refuses(x, BAD, when + ": cost(0, 0)", () -> x.cost(0, 0));
        C.refuses(x, BAD, when + ": line(1, 0, 0)", () -> x.line(1, 0, 0));
        C.refuses(x, BAD, when + ": arcOf(0, 0, 0)", () -> x.arcOf(0, 0, 0));
        C.refuses(x, BAD, when + ": stepOf(0, 0)", () -> x.stepOf(0, 0));
        C.refuses(x, BAD, when + ": can(0)", () -> x.can(0));
        C.refuses(x, BAD, when + ": goes(0)", () -> x.goes(0));
        C.refuses(x, BAD, when + ": loses(0)", () -> x.loses(0));
        C.refuses(x, BAD, when + ": returns(0)", () -> x.returns(0));
        C.refuses(x, BAD, when + ": sum(0, 0)", () -> x.sum(0, 0));
        C.refuses(x, BAD, when + ": sort(0)", () -> x.sort(0));
        C.refuses(x, BAD, when + ": sort(1)", () -> x.sort(1));
        C.refuses(x, BAD, when + ": guard(0, 1)", () -> x.guard(0, 1));
        C.refuses(x, BAD, when + ": guard(1, 1)", () -> x.guard(1, 1));
        C.refuses(x, BAD, when + ": drop(0)", () -> x.drop(0));
        C.refuses(x, BAD, when + ": guardOf(0, 0)", () -> x.guardOf(0, 0));
        C.due(when + ": sums()", x.sums(), 0);
        C.due(when + ": stucks()", x.stucks(), 0);
        for (int what = 0; what <= 3; what++) {
            int w = what;
            C.none(x, when + ": value(0, " + w + ")", () -> x.value(0, w));
            C.none(x, when + ": found(1, " + w + ")", () -> x.found(1, w));
            C.due(when + ": found(0, " + w + ")", x.found(0, w), w == 2 ? 1 : 0);
        }
        all(when, x, 1, 1, 1, 0, 0, 0);
        atHome(when, x);
    }

    private static void changesOfNothing() {
        PalletNets x = new PalletNets();
        C.due("runs(8, 0)", x.runs(8, 0), 0);
        C.due("runs(8, 1)", x.runs(8, 1), 0);
        C.due("restarts()", x.restarts(), 0);
        C.due("guards()", x.guards(), 0);
        C.due("anew()", x.anew(), 0);
        C.due("each is a change all the same", x.told(8), 5);
        for (int left = 4; left >= 0; left--) {
            C.due("back()", x.back(), left);
        }
        C.due("as a new object, digest()", x.digest(), new PalletNets().digest());
    }

    private static void noSteps() {
        PalletNets x = Checks.net("p2;p0;p15;");
        C.refuses(x, BAD, "no steps: can(0)", () -> x.can(0));
        C.refuses(x, BAD, "no steps: goes(0)", () -> x.goes(0));
        C.refuses(x, BAD, "no steps: cost(0, 1)", () -> x.cost(0, 1));
        C.refuses(x, BAD, "no steps: arc(0, 0, 0, 1)", () -> x.arc(0, 0, 0, 1));
        C.refuses(x, BAD, "no steps: arcOf(0, 0, 0)", () -> x.arcOf(0, 0, 0));
        C.refuses(x, BAD, "no steps: stepOf(0, 0)", () -> x.stepOf(0, 0));
        all("no steps", x, 1, 1, 1, 0, 0, 17);
        atHome("no steps", x);
        C.due("no steps: sums()", x.sums(), 3);
        C.due("no steps: stucks()", x.stucks(), 3);
        for (int set = 1; set <= 7; set++) {
            C.due("no steps: sort(" + set + ")", x.sort(set), 3);
        }
        for (int p = 0; p < 3; p++) {
            C.due("no steps: of(" + p + ", 3)", x.of(p, 3), x.of(p, 0));
            C.due("no steps: of(" + p + ", 4)", x.of(p, 4), x.of(p, 0));
            C.due("no steps: of(" + p + ", 5)", x.of(p, 5), x.of(p, 0));
            C.due("no steps: stuck(" + p + ", 0)", x.stuck(p, 0), 1 << p);
            C.due("no steps: stuck(" + p + ", 3), all of it is held", x.stuck(p, 3), 1 << p);
            C.due("no steps: stuck(" + p + ", 4)", x.stuck(p, 4), p == 1 ? 0 : 1);
        }
        C.due("no steps: found(0, 3)", x.found(0, 3), 0);
        C.due("no steps: runs(8, 2)", x.runs(8, 2), 0);
        C.due("no steps: guards(), the place without a start has no token", x.guards(), 0);
        C.due("no steps: guard(1, 2)", x.guard(1, 2), 0);
        C.due("no steps: guardOf(0, 3)", x.guardOf(0, 3), 0);
        C.due("no steps: guardOf(0, 4)", x.guardOf(0, 4), 1);
    }

    private static void noPlaces() {
        PalletNets x = new PalletNets();
        C.due("step(4) without places", x.step(4), 0);
        C.due("no places: stepOf(0, 1)", x.stepOf(0, 1), 0);
        C.due("no places: stepOf(0, 2)", x.stepOf(0, 2), 0);
        C.due("no places: can(0)", x.can(0), 0);
        C.due("no places: goes(0), it can go again", x.goes(0), 1);
        C.due("no places: runs(8, 0)", x.runs(8, 0), 8);
        all("no places", x, 1, 1, 0, 0, 1, 0);
        atHome("no places", x);
        C.due("no places: found(0, 0)", x.found(0, 0), 0);
        C.due("no places: found(0, 3)", x.found(0, 3), 1);
        C.due("no places: restarts()", x.restarts(), 0);
        x.keeper(1);
        C.due("no places: can(0), home is where it leads", x.can(0), 0);
        C.refuses(x, BAD, "no places: arcOf(0, 0, 0)", () -> x.arcOf(0, 0, 0));
        C.refuses(x, BAD, "no places: line(1, 0, 0)", () -> x.line(1, 0, 0));
        C.refuses(x, BAD, "no places: guard(1, 1)", () -> x.guard(1, 1));
        C.due("no places: anew()", x.anew(), 0);
        C.due("no places: steps after anew()", x.told(5), 0);
    }

    private static void noGuards() {
        PalletNets x = Checks.net("p2;t0 0>;");
        C.due("no guards: told(6)", x.told(6), 0);
        C.refuses(x, BAD, "no guards: drop(0)", () -> x.drop(0));
        C.refuses(x, BAD, "no guards: guardOf(0, 0)", () -> x.guardOf(0, 0));
        C.due("no guards: nothing bars", x.runs(8, 0), 2);
        x.restarts();
        x.guard(1, 1);
        C.due("one guard bars", x.runs(8, 0), 1);
        C.due("drop(0), the only one", x.drop(0), 0);
        C.refuses(x, BAD, "no guards again: drop(0)", () -> x.drop(0));
        C.refuses(x, BAD, "no guards again: guardOf(0, 0)", () -> x.guardOf(0, 0));
        C.due("no guards again: nothing bars", x.runs(8, 0), 1);
    }

    private static void noTokens() {
        PalletNets x = Checks.net("p0;p0;t0 0>1;t0 1>0;");
        C.due("no tokens: can(0)", x.can(0), 1);
        C.refuses(x, NO, "no tokens: goes(0)", () -> x.goes(0));
        C.refuses(x, NO, "no tokens: loses(0)", () -> x.loses(0));
        C.refuses(x, NO, "no tokens: returns(0)", () -> x.returns(0));
        C.refuses(x, NO, "no tokens: guard(3, 1)", () -> x.guard(3, 1));
        C.due("no tokens: guards()", x.guards(), 0);
        C.due("no tokens: restarts()", x.restarts(), 0);
        C.due("no tokens: of(0, 3)", x.of(0, 3), 0);
        C.due("no tokens: value(0, 0)", x.value(0, 0), 0);
        C.due("no tokens: stuck(0, 4), its held part has only starts of 0", x.stuck(0, 4), 0);
        C.due("no tokens: stuck(0, 5)", x.stuck(0, 5), 0);
        all("no tokens", x, 1, 1, 1, 0, 0, 0);
        atHome("no tokens", x);
    }

    private static void noText() {
        PalletNets x = Checks.net("p1;");
        x.clear();
        C.changesNothing(() -> Checks.net("p1;"), "reads() of nothing", y -> {
            Checks.text(y, "");
            return y.reads() + type(y, "p1;");
        });
        C.due("reads() of nothing", x.reads(), -10);
        C.due("clear() of nothing", x.clear(), 0);
        C.due("told(3)", x.told(3), 0);
        C.due("no refusal", x.told(0) + x.told(1) + x.told(2), 0);
    }

    private static int type(PalletNets x, String text) {
        for (int i = 0; i < text.length(); i++) {
            x.type(text.charAt(i));
        }
        return x.told(3);
    }

    private static void spacesOnly() {
        for (int n : new int[] {1, 2, 60, 119, 120}) {
            PalletNets x = new PalletNets();
            type(x, " ".repeat(n));
            C.due(n + " spaces: reads()", x.reads(), -10 - n);
            C.due(n + " spaces are no change", x.told(8), 0);
            C.due(n + " spaces stay", x.told(3), n);
            C.due(n + " spaces are no refusal", x.told(0) + x.told(1) + x.told(2), 0);
            C.due(n + " spaces: clear()", x.clear(), n);
        }
    }

    private static void noStateKept() {
        PalletNets x = new PalletNets();
        C.refuses(x, NO, "back() on a new object", x::back);
        type(x, "p1;x");
        C.due("an error keeps no state", x.reads(), -13);
        x.place(-1);
        x.loses(0);
        x.clear();
        x.digest();
        C.refuses(x, NO, "back() after errors, refusals, texts and queries", x::back);
        x.place(1);
        C.due("back() of the only one", x.back(), 0);
        C.refuses(x, NO, "back() after it", x::back);
        C.due("told(8)", x.told(8), 0);
        C.due("NONE is none of the refusals", NONE, -1);
    }
}
