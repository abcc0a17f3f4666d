import java.util.ArrayList;
import java.util.List;
import java.util.Random;

/** Runs of up to 512 random calls, each answer held against the model's; every run is told by its seed alone. */
public final class RandomTest {
    private static final String[] NAMES = {"place", "step", "arc", "start", "cost", "line", "draw", "anew", "of", "arcOf",
        "stepOf", "can", "goes", "runs", "restarts", "loses", "returns", "keeper", "sums", "sum", "value", "stucks", "stuck",
        "sort", "guard", "guards", "drop", "guardOf", "all", "found", "home", "type", "clear", "reads", "back", "told",
        "digest"};
    /** How often each call comes, in the order of NAMES; the text comes by whole texts beside it. */
    private static final int[] SHARES = {3, 3, 10, 4, 4, 5, 3, 1, 14, 6,
        6, 16, 24, 10, 6, 10, 8, 4, 3, 6, 8, 3, 10,
        8, 12, 3, 3, 12, 12, 12, 12, 1, 1, 1, 6, 8,
        5};

    /** An object is used for so many calls. */
    private static final int CALLS = 512;
    /** Calls of a text at most: clear(), 121 bytes, of which the last is refused, and reads(). */
    private static final int LONGEST = 123;

    private final Random random;
    private final PalletNets x = new PalletNets();
    private final Model model = new Model();
    private final List<String> calls = new ArrayList<>();

    private RandomTest(long seed) {
        random = new Random(seed);
    }

    public static void main(String[] args) {
        long from = args.length > 0 ? Long.parseLong(args[0]) : 1;
        long to = args.length > 1 ? Long.parseLong(args[1]) : 120;
        Checks checks = new Checks("RandomTest");
        for (long seed = from; seed <= to && checks.wrong() == 0; seed++) {
            new RandomTest(seed).run(checks, seed);
        }
        checks.end();
    }

    private void run(Checks checks, long seed) {
        if (random.nextInt(8) != 0) {
            text(random.nextInt(3) == 0 ? cell() : someText());
        }
        while (made < CALLS) {
            if (random.nextInt(40) == 0 && made + LONGEST <= CALLS) {
                text(random.nextInt(3) == 0 ? cell() : someText());
            } else {
                call(chosen());
            }
            if (wrong != null) {
                checks.due("run " + seed + " " + calls.subList(Math.max(0, calls.size() - 25), calls.size()) + " " + wrong, got, want);
                return;
            }
        }
        checks.due("run " + seed, 0, 0);
    }

    private int made = 0;
    private String wrong = null;
    private long got;
    private long want;

    private void held(String call, long answer, long due) {
        made++;
        calls.add(call + "=" + due);
        if (answer != due && wrong == null) {
            wrong = call;
            got = answer;
            want = due;
        }
    }

    private int chosen() {
        int total = 0;
        for (int share : SHARES) total += share;
        int r = random.nextInt(total);
        int i = 0;
        while (r >= SHARES[i]) {
            r -= SHARES[i];
            i++;
        }
        return i;
    }

    /** Mostly within the range, now and then at an end of it, beside it, or far out. */
    private int arg(int least, int most) {
        int kind = random.nextInt(40);
        if (kind == 0) return least - 1;
        if (kind == 1) return most + 1;
        if (kind == 2) return new int[] {Integer.MIN_VALUE, Integer.MAX_VALUE, -1, 1024, 33, 64}[random.nextInt(6)];
        if (kind == 3) return least;
        if (kind == 4) return most;
        return most < least ? least : least + random.nextInt(most - least + 1);
    }

    private int place() {
        return arg(0, model.net.starts.size() - 1);
    }

    private int step() {
        return arg(0, model.net.steps.size() - 1);
    }

    private int setOfPlaces() {
        return random.nextInt(3) == 0 && !model.net.siphons().isEmpty()
            ? model.net.siphons().get(random.nextInt(model.net.siphons().size()))
            : arg(1, (1 << model.net.starts.size()) - 1);
    }

    private void call(int op) {
        int a;
        int b;
        int c;
        int d;
        switch (NAMES[op]) {
            case "place" -> { a = arg(0, 15); held("place(" + a + ")", x.place(a), model.place(a)); }
            case "step" -> { a = arg(0, 9); held("step(" + a + ")", x.step(a), model.step(a)); }
            case "arc" -> { a = step(); b = place(); c = arg(0, 1); d = arg(0, 2);
                held("arc(" + a + "," + b + "," + c + "," + d + ")", x.arc(a, b, c, d), model.arc(a, b, c, d)); }
            case "start" -> { a = place(); b = arg(0, 15); held("start(" + a + "," + b + ")", x.start(a, b), model.start(a, b)); }
            case "cost" -> { a = step(); b = arg(0, 9); held("cost(" + a + "," + b + ")", x.cost(a, b), model.cost(a, b)); }
            case "line" -> { a = arg(1, 9); b = place(); c = place();
                held("line(" + a + "," + b + "," + c + ")", x.line(a, b, c), model.line(a, b, c)); }
            case "draw" -> { a = arg(0, 999999); b = arg(1, 10); c = arg(1, 8);
                held("draw(" + a + "," + b + "," + c + ")", x.draw(a, b, c), model.draw(a, b, c)); }
            case "anew" -> held("anew()", x.anew(), model.anew());
            case "of" -> { a = place(); b = arg(0, 5); held("of(" + a + "," + b + ")", x.of(a, b), model.of(a, b)); }
            case "arcOf" -> { a = step(); b = place(); c = arg(0, 1);
                held("arcOf(" + a + "," + b + "," + c + ")", x.arcOf(a, b, c), model.arcOf(a, b, c)); }
            case "stepOf" -> { a = step(); b = arg(0, 2); held("stepOf(" + a + "," + b + ")", x.stepOf(a, b), model.stepOf(a, b)); }
            case "can" -> { a = step(); held("can(" + a + ")", x.can(a), model.can(a)); }
            case "goes" -> { a = step(); held("goes(" + a + ")", x.goes(a), model.goes(a)); }
            case "runs" -> { a = arg(1, 8); b = arg(0, 2); held("runs(" + a + "," + b + ")", x.runs(a, b), model.runs(a, b)); }
            case "restarts" -> held("restarts()", x.restarts(), model.restarts());
            case "loses" -> { a = place(); held("loses(" + a + ")", x.loses(a), model.loses(a)); }
            case "returns" -> { a = place(); held("returns(" + a + ")", x.returns(a), model.returns(a)); }
            case "keeper" -> { a = arg(0, 1); held("keeper(" + a + ")", x.keeper(a), model.keeper(a)); }
            default -> ask(op);
        }
    }

    private void ask(int op) {
        int a;
        int b;
        switch (NAMES[op]) {
            case "sums" -> held("sums()", x.sums(), model.sums());
            case "sum" -> { a = arg(0, model.sums()); b = place(); held("sum(" + a + "," + b + ")", x.sum(a, b), model.sum(a, b)); }
            case "value" -> { a = arg(0, model.sums()); b = arg(0, 3); held("value(" + a + "," + b + ")", x.value(a, b), model.value(a, b)); }
            case "stucks" -> held("stucks()", x.stucks(), model.stucks());
            case "stuck" -> { a = arg(0, model.stucks()); b = arg(0, 5); held("stuck(" + a + "," + b + ")", x.stuck(a, b), model.stuck(a, b)); }
            case "sort" -> { a = setOfPlaces(); held("sort(" + a + ")", x.sort(a), model.sort(a)); }
            case "guard" -> { a = setOfPlaces(); b = random.nextBoolean() ? arg(1, 3) : arg(1, 9);
                held("guard(" + a + "," + b + ")", x.guard(a, b), model.guard(a, b)); }
            case "guards" -> held("guards()", x.guards(), model.guards());
            case "drop" -> { a = arg(0, model.net.guards.size() - 1); held("drop(" + a + ")", x.drop(a), model.drop(a)); }
            case "guardOf" -> { a = arg(0, model.net.guards.size() - 1); b = arg(0, 4);
                held("guardOf(" + a + "," + b + ")", x.guardOf(a, b), model.guardOf(a, b)); }
            case "all" -> { a = arg(0, 5); held("all(" + a + ")", x.all(a), model.all(a)); }
            case "found" -> { a = arg(0, random.nextBoolean() ? 20 : 200); b = arg(0, 3);
                held("found(" + a + "," + b + ")", x.found(a, b), model.found(a, b)); }
            case "home" -> { a = arg(0, 2); held("home(" + a + ")", x.home(a), model.home(a)); }
            case "type" -> { a = arg(0, 127); held("type(" + a + ")", x.type(a), model.type(a)); }
            case "clear" -> held("clear()", x.clear(), model.clear());
            case "reads" -> held("reads()", x.reads(), model.reads());
            case "back" -> held("back()", x.back(), model.back());
            case "told" -> { a = arg(0, 8); held("told(" + a + ")", x.told(a), model.told(a)); }
            default -> held("digest()", x.digest(), model.digest());
        }
    }

    /** Told as one call of the run: the bytes are put into both. */
    private void text(String text) {
        x.clear();
        model.clear();
        made++;
        for (int i = 0; i < text.length() && i <= 120; i++) {
            held("type", x.type(text.charAt(i)), model.type(text.charAt(i)));
            if (wrong == null) calls.remove(calls.size() - 1);
        }
        held("reads of '" + text + "'", x.reads(), model.reads());
    }

    /** Machines and lines through them, as work cells have them. */
    private String cell() {
        StringBuilder s = new StringBuilder();
        int machines = 1 + random.nextInt(3);
        for (int i = 0; i < machines; i++) s.append("p").append(1 + random.nextInt(2)).append(";");
        for (int i = 0; i < 2; i++) {
            s.append("l").append(1 + random.nextInt(3));
            for (int n = 1 + random.nextInt(2); n >= 0; n--) s.append(random.nextInt(machines));
            s.append(";");
        }
        return s.toString();
    }

    private String someText() {
        StringBuilder s = new StringBuilder();
        int known = model.net.starts.size();
        for (int n = 1 + random.nextInt(12); n > 0 && s.length() < 110; n--) {
            int kind = random.nextInt(10);
            if (kind < 4 || known == 0) {
                s.append('p').append(gap()).append(random.nextInt(random.nextInt(6) == 0 ? 20 : 5)).append(gap());
                known++;
            } else if (kind < 7) {
                s.append('t').append(gap()).append(random.nextInt(10)).append(gap()).append(places(known, random.nextInt(4)))
                    .append(gap()).append('>').append(gap()).append(places(known, random.nextInt(4)));
            } else if (kind < 8) {
                int m = 1 + random.nextInt(random.nextInt(4) == 0 ? 5 : 2);
                s.append('l').append(gap()).append(random.nextInt(10)).append(gap()).append(places(known, m));
                known += m + 1;
            } else {
                s.append('g').append(gap()).append(places(known, 1 + random.nextInt(4))).append(gap()).append('/').append(gap())
                    .append(random.nextInt(4));
            }
            s.append(gap()).append(';');
        }
        for (int n = random.nextInt(3) == 0 ? 1 + random.nextInt(2) : 0; n > 0; n--) spoil(s);
        return s.toString();
    }

    private void spoil(StringBuilder s) {
        String bytes = "ptlg0123456789;>/ x\u0000\u007f";
        int at = random.nextInt(s.length() + 1);
        char c = bytes.charAt(random.nextInt(bytes.length()));
        int kind = random.nextInt(4);
        if (kind == 0) s.insert(at, c);
        else if (kind == 1) s.setLength(at);
        else if (at < s.length() && kind == 2) s.deleteCharAt(at);
        else if (at < s.length()) s.setCharAt(at, c);
    }

    private String places(int known, int n) {
        StringBuilder s = new StringBuilder();
        for (int i = 0; i < n; i++) {
            int most = Math.min(10, random.nextInt(30) == 0 ? known + 1 : known);
            s.append(random.nextInt(Math.max(1, most))).append(gap());
        }
        return s.toString();
    }

    private String gap() {
        return " ".repeat(random.nextInt(5) == 0 ? 1 + random.nextInt(2) : 0);
    }
}
