import java.util.ArrayList;
import java.util.List;

/** Reads the text byte by byte: what each byte may be depends on the part of the order that is open. */
final class ModelText {
    private enum Part { LETTER, V_FIRST, V_SECOND, COST, TAKES, GIVES, PALLETS, MACHINES, SET, LEAST, SEMICOLON }

    final Model.Net net;
    private final String text;
    private Part part = Part.LETTER;
    private int letterAt;
    private char letter;
    private int vAt;
    private int number;
    private int digitsOfV;
    private final List<Integer> first = new ArrayList<>();
    private final List<Integer> second = new ArrayList<>();
    private int orders = 0;
    private int error = -1;

    ModelText(Model.Net net, String text) {
        this.net = net;
        this.text = text;
    }

    int run() {
        for (int i = 0; i < text.length() && error < 0; i++) {
            char c = text.charAt(i);
            if (part == Part.V_SECOND && (c < '0' || c > '9')) {
                part = Part.SEMICOLON;
            }
            if (c != ' ') {
                take(i, c);
            }
        }
        if (error < 0 && (part != Part.LETTER || orders == 0)) {
            error = text.length();
        }
        return error < 0 ? orders : -10 - error;
    }

    private void take(int i, char c) {
        boolean digit = c >= '0' && c <= '9';
        int d = c - '0';
        boolean known = digit && d < net.starts.size();
        switch (part) {
            case LETTER -> takeLetter(i, c);
            case V_FIRST -> {
                vAt = i;
                number = d;
                digitsOfV = 1;
                next(digit, i, Part.V_SECOND);
            }
            case V_SECOND -> {
                number = 10 * number + d;
                digitsOfV++;
                if (digitsOfV > 2 || number > 15) error = vAt;
            }
            case COST -> {
                number = d;
                next(digit, i, Part.TAKES);
            }
            case TAKES -> takeArc(i, c, known, first, '>');
            case GIVES -> takeArc(i, c, known, second, ';');
            case PALLETS -> {
                number = d;
                next(digit && d > 0, i, Part.MACHINES);
            }
            case MACHINES -> {
                if (known && first.size() < 4) first.add(d);
                else if (c == ';' && !first.isEmpty()) finish();
                else error = i;
            }
            case SET -> {
                if (known) first.add(d);
                else next(c == '/' && !first.isEmpty(), i, Part.LEAST);
            }
            case LEAST -> {
                number = d;
                next(digit && d > 0, i, Part.SEMICOLON);
            }
            default -> {
                if (c == ';') finish();
                else error = i;
            }
        }
    }

    private void takeLetter(int i, char c) {
        letterAt = i;
        letter = c;
        first.clear();
        second.clear();
        if (c == 'p') next(net.starts.size() < 10, i, Part.V_FIRST);
        else if (c == 't') next(net.steps.size() < 8, i, Part.COST);
        else if (c == 'l') part = Part.PALLETS;
        else if (c == 'g') next(net.guards.size() < 5, i, Part.SET);
        else error = i;
    }

    private void takeArc(int i, char c, boolean known, List<Integer> arcs, char end) {
        if (known) {
            int place = c - '0';
            arcs.add(place);
            if (arcs.stream().filter(x -> x == place).count() > 2) error = i;
        } else if (c != end) {
            error = i;
        } else if (end == '>') {
            part = Part.GIVES;
        } else {
            finish();
        }
    }

    private void next(boolean right, int i, Part then) {
        if (right) part = then;
        else error = i;
    }

    private void finish() {
        part = Part.LETTER;
        orders++;
        if (letter == 'p') {
            net.starts.add(number);
        } else if (letter == 't') {
            Model.Step step = new Model.Step(number);
            for (int p : first) step.takes[p]++;
            for (int p : second) step.gives[p]++;
            net.steps.add(step);
        } else if (letter == 'l') {
            if (net.starts.size() + first.size() + 1 > 10 || net.steps.size() + first.size() + 1 > 8) {
                error = letterAt;
                return;
            }
            net.line(number, first);
        } else {
            int set = 0;
            for (int p : first) set |= 1 << p;
            if (Model.sum(net.home(), set) < number) error = letterAt;
            else net.guards.add(new Model.Guard(set, number));
            return;
        }
        net.renew();
    }
}
