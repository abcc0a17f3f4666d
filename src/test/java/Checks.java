import java.util.function.LongSupplier;
import java.util.function.Supplier;
import java.util.function.ToLongFunction;

/** Counts the answers that are not as due, and ends a test with exit code 1 if there was one. */
final class Checks {
    private final String name;
    private int checked = 0;
    private int wrong = 0;
    private String saying = "";
    private int checkedBefore = -1;

    Checks(String name) {
        this.name = name;
    }

    void due(String what, long got, long want) {
        checked++;
        if (got != want) {
            complain(what + " answered " + got + ", due is " + want + saying);
        }
    }

    private void complain(String what) {
        wrong++;
        if (wrong <= 20) {
            System.out.println(name + ": " + what);
        }
    }

    /**
     * The checks up to the next sentence hold this one, of the section W (What it is), D (Description) or of a promise's
     * number; DocumentTest sees to it that no sentence of the document is left out.
     */
    void says(String section, String sentence) {
        if (checked == checkedBefore) {
            complain("nothing is checked" + saying);
        }
        saying = ", as " + section + " says: " + sentence;
        checkedBefore = checked;
    }

    void isTrue(String what, boolean holds) {
        due(what, holds ? 1 : 0, 1);
    }

    int wrong() {
        return wrong;
    }

    void end() {
        says("", "");
        System.out.println(name + ": " + checked + " checked, " + wrong + " wrong");
        if (wrong != 0) {
            System.exit(1);
        }
    }

    /** The call answers this code, is counted once for it, and leaves all else as it was. */
    void refuses(PalletNets x, int code, String what, LongSupplier call) {
        int counted = -2 - code;
        long count = x.told(counted);
        long behind = 9 + 3 * x.told(4) + 3 * x.told(5) + 2 * x.told(6) + 6 - 1 - counted;
        long before = x.digest();
        due(what, call.getAsLong(), code);
        due(what + " is counted: told(" + counted + ")", x.told(counted), count + 1);
        // one of the numbers in the hash is greater by 1, with so many numbers behind it
        due(what + " changes nothing else: digest()", x.digest(), before + power(31, behind));
    }

    private static long power(long base, long exponent) {
        long product = 1;
        for (long n = 0; n < exponent; n++) {
            product *= base;
        }
        return product;
    }

    /** What refuses() sees, and all that can be asked for is as on a twin without the call, now and after each back(). */
    void refusesAll(Supplier<PalletNets> made, int code, String what, ToLongFunction<PalletNets> call) {
        PalletNets x = made.get();
        refuses(x, code, what, () -> call.applyAsLong(x));
        changesNothing(made, what, call);
    }

    /** All that can be asked for, but for the counts, is as on a twin without the call, now and after each back(). */
    void changesNothing(Supplier<PalletNets> made, String what, ToLongFunction<PalletNets> call) {
        int kept = made.get().told(8);
        for (int backs = 0; backs <= kept; backs++) {
            PalletNets x = made.get();
            PalletNets twin = made.get();
            call.applyAsLong(x);
            for (int n = 1; n <= backs; n++) {
                due(what + " keeps and loses no state: back()", x.back(), kept - n);
                twin.back();
            }
            due(what + " changes nothing: the state after " + backs + " back()", state(x), state(twin));
        }
    }

    /** The call answers NONE, which is no refusal and is not counted. */
    void none(PalletNets x, String what, LongSupplier call) {
        long before = x.digest();
        due(what, call.getAsLong(), PalletNets.NONE);
        due(what + " changes nothing: digest()", x.digest(), before);
    }

    /** A hash of all that can be asked for, but for the counts. */
    static long state(PalletNets x) {
        return 37 * (37 * content(x) + x.told(3)) + x.told(8);
    }

    /** A hash of what back() restores: net, guards, lost tokens, present marking, keeper. */
    static long content(PalletNets x) {
        long h = 1;
        for (int what = 4; what <= 7; what++) {
            h = 37 * h + x.told(what);
        }
        for (int p = 0; p < x.told(4); p++) {
            for (int what = 0; what <= 2; what++) {
                h = 37 * h + x.of(p, what);
            }
        }
        for (int t = 0; t < x.told(5); t++) {
            h = 37 * h + x.stepOf(t, 0);
            for (int p = 0; p < x.told(4); p++) {
                h = 37 * h + 3 * x.arcOf(t, p, 0) + x.arcOf(t, p, 1);
            }
        }
        for (int g = 0; g < x.told(6); g++) {
            h = 37 * h + 1024 * x.guardOf(g, 1) + x.guardOf(g, 0);
        }
        return h;
    }

    /**
     * Places with the starts 3, 2, 0, a step 0 from place 0 to place 2, a guard for places 0 and 1; a token of
     * place 1 is lost, the step has gone once, the keeper is on, and 4 states are kept.
     */
    static PalletNets worn() {
        PalletNets x = net("p3;p2;p0;t1 0>2;g01/1;");
        x.loses(1);
        x.goes(0);
        x.keeper(1);
        x.clear();
        return x;
    }

    /** A call on worn() renewed the net, kept one state more, and back() brings the worn one again. */
    void renewed(PalletNets x, String call, int keeper) {
        due(call + " removes guards: told(6)", x.told(6), 0);
        due(call + ": told(7)", x.told(7), keeper);
        due(call + " is a change: told(8)", x.told(8), 5);
        for (int p = 0; p < x.told(4); p++) {
            due(call + ": lost of " + p, x.of(p, 2), 0);
            due(call + ": present of " + p, x.of(p, 1), x.of(p, 0));
        }
        due(call + ", back()", x.back(), 4);
        due(call + ", back(): state", state(x), state(worn()));
    }

    /** A call on worn() was a change, but renewed nothing. */
    void changedOnly(PalletNets x, String call) {
        due(call + " keeps guards: told(6)", x.told(6), 1);
        due(call + " keeps lost tokens", x.of(1, 2), 1);
        due(call + " keeps the present marking", x.of(2, 1), 1);
        due(call + " is a change: told(8)", x.told(8), 5);
        due(call + ", back()", x.back(), 4);
        due(call + ", back(): state", state(x), state(worn()));
    }

    /** Makes this the text, whatever it was before. */
    static void text(PalletNets x, String text) {
        x.clear();
        for (int i = 0; i < text.length(); i++) {
            x.type(text.charAt(i));
        }
    }

    static int read(PalletNets x, String text) {
        text(x, text);
        return x.reads();
    }

    /** A new workbench with the net of this text. */
    static PalletNets net(String text) {
        PalletNets x = new PalletNets();
        if (read(x, text) < 0) {
            throw new IllegalStateException("no such net: " + text);
        }
        return x;
    }
}
