import java.util.function.LongSupplier;

/** Counts the answers that are not as due, and ends a test with exit code 1 if there was one. */
final class Checks {
    private final String name;
    private int checked = 0;
    private int wrong = 0;

    Checks(String name) {
        this.name = name;
    }

    void due(String what, long got, long want) {
        checked++;
        if (got != want) {
            wrong++;
            if (wrong <= 20) {
                System.out.println(name + ": " + what + " answered " + got + ", due is " + want);
            }
        }
    }

    void isTrue(String what, boolean holds) {
        due(what, holds ? 1 : 0, 1);
    }

    int wrong() {
        return wrong;
    }

    void end() {
        System.out.println(name + ": " + checked + " checked, " + wrong + " wrong");
        if (wrong != 0) {
            System.exit(1);
        }
    }

    /** The call answers this code, is counted once for it, and leaves all else as it was. */
    void refuses(PalletNets x, int code, String what, LongSupplier call) {
        long[] counts = {x.told(0), x.told(1), x.told(2)};
        long before = state(x);
        due(what, call.getAsLong(), code);
        counts[-2 - code]++;
        due(what + " changes nothing: the state", state(x), before);
        for (int i = 0; i < 3; i++) {
            due(what + " is counted: told(" + i + ")", x.told(i), counts[i]);
        }
    }

    /** The call answers NONE, which is no refusal and is not counted. */
    void none(PalletNets x, String what, LongSupplier call) {
        long before = x.digest();
        due(what, call.getAsLong(), PalletNets.NONE);
        due(what + " changes nothing: digest()", x.digest(), before);
    }

    /** A hash of all that can be asked for, but for the counts. */
    static long state(PalletNets x) {
        long h = 1;
        for (int what = 3; what <= 8; what++) {
            h = 37 * h + x.told(what);
        }
        for (int p = 0; p < x.told(4); p++) {
            for (int what = 0; what <= 2; what++) {
                h = 37 * h + x.of(p, what);
            }
        }
        for (int t = 0; t < x.told(5); t++) {
            h = 37 * h + x.stepOf(t, 0);
            for (int p = 0; p < x.told(4); p++) {
                h = 37 * h + 3 * x.arcOf(t, p, 0) + x.arcOf(t, p, 1);
            }
        }
        for (int g = 0; g < x.told(6); g++) {
            h = 37 * h + 1024 * x.guardOf(g, 1) + x.guardOf(g, 0);
        }
        return h;
    }

    /**
     * Places with the starts 3, 2, 0, a step 0 from place 0 to place 2, a guard for places 0 and 1; a token of
     * place 1 is lost, the step has gone once, the keeper is on, and 4 states are kept.
     */
    static PalletNets worn() {
        PalletNets x = net("p3;p2;p0;t1 0>2;g01/1;");
        x.loses(1);
        x.goes(0);
        x.keeper(1);
        x.clear();
        return x;
    }

    /** A call on worn() renewed the net, kept one state more, and back() brings the worn one again. */
    void renewed(PalletNets x, String call, int keeper) {
        due(call + " removes guards: told(6)", x.told(6), 0);
        due(call + ": told(7)", x.told(7), keeper);
        due(call + " is a change: told(8)", x.told(8), 5);
        for (int p = 0; p < x.told(4); p++) {
            due(call + ": lost of " + p, x.of(p, 2), 0);
            due(call + ": present of " + p, x.of(p, 1), x.of(p, 0));
        }
        due(call + ", back()", x.back(), 4);
        due(call + ", back(): state", state(x), state(worn()));
    }

    /** A call on worn() was a change, but renewed nothing. */
    void changedOnly(PalletNets x, String call) {
        due(call + " keeps guards: told(6)", x.told(6), 1);
        due(call + " keeps lost tokens", x.of(1, 2), 1);
        due(call + " keeps the present marking", x.of(2, 1), 1);
        due(call + " is a change: told(8)", x.told(8), 5);
        due(call + ", back()", x.back(), 4);
        due(call + ", back(): state", state(x), state(worn()));
    }

    /** Makes this the text, whatever it was before. */
    static void text(PalletNets x, String text) {
        x.clear();
        for (int i = 0; i < text.length(); i++) {
            x.type(text.charAt(i));
        }
    }

    static int read(PalletNets x, String text) {
        text(x, text);
        return x.reads();
    }

    /** A new workbench with the net of this text. */
    static PalletNets net(String text) {
        PalletNets x = new PalletNets();
        if (read(x, text) < 0) {
            throw new IllegalStateException("no such net: " + text);
        }
        return x;
    }
}
