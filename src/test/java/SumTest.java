import java.util.Random;

/** Promises 20 to 22: sums. */
public final class SumTest {
    private static final int BAD = PalletNets.BAD;
    private static final Checks C = new Checks("SumTest");

    public static void main(String[] args) {
        sums();
        weights();
        chain();
        dense();
        value();
        C.end();
    }

    private static void sums() {
        C.says("20", "Counts the minimal invariants.");
        C.due("20: no places", new PalletNets().sums(), 0);
        C.due("20: no steps", Checks.net("p0;p0;p0;").sums(), 3);
        C.due("20: a step without effect", Checks.net("p0;p0;t0 0>0;").sums(), 2);
        C.due("20: a source", Checks.net("p0;t0>0;").sums(), 0);
        C.says("20", "Returns their number.");
        C.due("20: a ring", Checks.net("p2;p0;p0;t1 0>1;t2 1>2;t3 2>0;").sums(), 1);
        C.due("20: one step of two and two", Checks.net("p0;p0;p0;p0;t0 0 1>2 3;").sums(), 4);
        C.due("20: a step that can never go counts too", Checks.net("p0;p0;t0 0 0>;").sums(), 1);
        C.due("20: two machines, two lines", Checks.net("p1;p1;l2 01;l2 10;").sums(), 4);
        // each of five takes with each of five gives: 25 pairs
        C.due("20: five and five", Checks.net("p0;p0;p0;p0;p0;p0;p0;p0;p0;p0;t0 01234>56789;").sums(), 25);
        PalletNets x = Checks.net("p1;p1;");
        C.due("20: before a new step", x.sums(), 2);
        x.step(0);
        x.arc(0, 0, 1, 1);
        C.due("20: after it", x.sums(), 1);
        x.back();
        C.due("20: after back()", x.sums(), 2);
        Checks.read(x, "t0 0>1;");
        C.due("20: after reads()", x.sums(), 1);
    }

    private static void due(PalletNets x, int k, int... weights) {
        for (int p = 0; p < weights.length; p++) {
            C.due("21: sum(" + k + ", " + p + ")", x.sum(k, p), weights[p]);
        }
    }

    private static void weights() {
        PalletNets x = Checks.net("p3;p1;p4;p1;t0 0 0>3;t0 1>2;");
        C.due("20: sums()", x.sums(), 2);
        C.says("21", "Returns a weight of a minimal invariant.");
        due(x, 0, 0, 1, 1, 0);
        due(x, 1, 1, 0, 0, 2);
        C.says("21", "Returns the weight; NONE if there is no invariant with this number; BAD, also if k is negative.");
        C.none(x, "21: sum(2, 0)", () -> x.sum(2, 0));
        C.none(x, "21: sum(MAX, 0)", () -> x.sum(Integer.MAX_VALUE, 0));
        C.refuses(x, BAD, "21: sum(-1, 0)", () -> x.sum(-1, 0));
        C.refuses(x, BAD, "21: sum(0, 4)", () -> x.sum(0, 4));
        C.refuses(x, BAD, "21: sum(0, -1)", () -> x.sum(0, -1));
        C.refuses(x, BAD, "21: sum(9, 4)", () -> x.sum(9, 4));
        due(Checks.net("p0;p0;"), 0, 1, 0);
        due(Checks.net("p0;p0;"), 1, 0, 1);
        // 2 a = 2 b has the weights 1 and 1, not 2 and 2
        due(Checks.net("p0;p0;t0 0 0>1 1;"), 0, 1, 1);
        // place 0 pays for 1 and 2 together, or 3 for each of them
        PalletNets y = Checks.net("p0;p0;p0;p0;t0 0>1 2;t0 1>3;t0 2>3;");
        C.due("20: one with all places", y.sums(), 1);
        due(y, 0, 2, 1, 1, 1);
        // supports 3 = {0, 1} and 5 = {0, 2}; their sum with the support 7 is not minimal
        PalletNets z = Checks.net("p0;p0;p0;t0 0>1 2;");
        C.due("20: sums()", z.sums(), 2);
        due(z, 0, 1, 1, 0);
        due(z, 1, 1, 0, 1);
    }

    private static void chain() {
        PalletNets x = Checks.net("p0;p0;p0;p0;p0;p0;p0;p0;p15;t0 00>1;t0 11>2;t0 22>3;t0 33>4;t0 44>5;t0 55>6;t0 66>7;t0 77>8;");
        C.due("20: a chain of eight", x.sums(), 1);
        due(x, 0, 1, 2, 4, 8, 16, 32, 64, 128, 256);
        C.due("22: value(0, 0)", x.value(0, 0), 15 * 256);
        C.due("10: of(0, 3)", x.of(0, 3), 15 * 256);
    }

    /** Nets of ten places with few empty arcs: many invariants on the way, with large weights. */
    private static void dense() {
        Random random = new Random(20);
        for (int n = 0; n < 150; n++) {
            PalletNets x = Checks.net("p1;p1;p1;p1;p1;p1;p1;p1;p1;p1;");
            Model model = new Model();
            for (int p = 0; p < 10; p++) {
                model.place(1);
            }
            int gaps = random.nextInt(8);
            for (int t = 0; t <= n % 8; t++) {
                x.step(0);
                model.step(0);
                for (int p = 0; p < 10; p++) {
                    int way = random.nextInt(2);
                    int w = random.nextInt(10) < gaps ? 0 : 1 + random.nextInt(2);
                    x.arc(t, p, way, w);
                    model.arc(t, p, way, w);
                }
            }
            C.due("20: sums() of a dense net", x.sums(), model.sums());
            C.due("23: stucks() of a dense net", x.stucks(), model.stucks());
            for (int k = 0; k < model.sums(); k++) {
                C.due("22: value() of a dense net", x.value(k, 3), model.value(k, 3));
                for (int p = 0; p < 10; p++) {
                    C.due("21: sum() of a dense net", x.sum(k, p), model.sum(k, p));
                }
            }
            for (int k = 0; k < model.stucks(); k++) {
                C.due("24: stuck() of a dense net", x.stuck(k, 0), model.stuck(k, 0));
                C.due("24: stuck() of a dense net", x.stuck(k, 3), model.stuck(k, 3));
            }
        }
    }

    private static void value() {
        PalletNets x = Checks.net("p3;p1;p4;p1;t0 0 0>3;t0 1>2;");
        x.loses(0);
        x.loses(2);
        x.goes(0);
        // starts 3 1 4 1, home 2 1 3 1, present 0 1 3 2
        C.says("22", "Returns a property of a minimal invariant.");
        C.due("22: value(0, 0)", x.value(0, 0), 5);
        C.says("22", "0, 1, 2: the weighted sum of the starts, of the tokens of the present marking, of those of the "
            + "home marking; 3: its support");
        C.due("22: value(0, 1)", x.value(0, 1), 4);
        C.due("22: value(0, 2)", x.value(0, 2), 4);
        C.due("22: value(0, 3)", x.value(0, 3), 6);
        C.due("22: value(1, 0)", x.value(1, 0), 5);
        C.due("22: value(1, 1)", x.value(1, 1), 4);
        C.due("22: value(1, 2)", x.value(1, 2), 4);
        C.due("22: value(1, 3)", x.value(1, 3), 9);
        PalletNets y = Checks.net("p3;p1;t0 1>;");
        y.goes(0);
        C.due("22: a place alone: sums()", y.sums(), 1);
        C.due("22: its support", y.value(0, 3), 1);
        PalletNets z = Checks.net("p2;p1;p0;t0 0>1;");
        C.due("22: the one with the lower support first", z.value(0, 3), 3);
        C.due("22: then the other", z.value(1, 3), 4);
        z.loses(0);
        z.returns(0);
        z.loses(1);
        C.due("22: of the starts", z.value(0, 0), 3);
        C.due("22: of the present marking", z.value(0, 1), 2);
        C.due("22: of home", z.value(0, 2), 2);
        C.says("22", "Returns the property; NONE if there is no invariant with this number; BAD, also if k is negative.");
        C.none(x, "22: value(2, 0)", () -> x.value(2, 0));
        C.refuses(x, BAD, "22: value(-1, 0)", () -> x.value(-1, 0));
        C.refuses(x, BAD, "22: value(0, 4)", () -> x.value(0, 4));
        C.refuses(x, BAD, "22: value(0, -1)", () -> x.value(0, -1));
        C.refuses(x, BAD, "22: value(9, 4)", () -> x.value(9, 4));
    }
}
