import java.util.ArrayList;
import java.util.List;
import java.util.Random;

/**
 * Holds the program against Model in runs of calls by fixed seeds, with good texts and spoilt ones.
 * The arguments, where there are any: how many runs, and the number of the first.
 */
public final class RandomRunsTest {
    private static final int RUNS = 400;
    private static final int CALLS = 500;

    private final Random random;
    private final int run;
    private final ZigzagTablets program = new ZigzagTablets();
    private final Model model = new Model();
    private final List<String> calls = new ArrayList<>();
    private List<Integer> latestImage = new ArrayList<>();
    private int wrong;
    /** How deep the present text may go: mostly no deeper than is allowed. */
    private int deepest;

    private RandomRunsTest(int run) {
        this.run = run;
        random = new Random(run * 7919L + 17);
    }

    public static void main(String[] args) {
        int runs = args.length > 0 ? Integer.parseInt(args[0]) : RUNS;
        int first = args.length > 1 ? Integer.parseInt(args[1]) : 0;
        int wrong = 0;
        for (int run = 0; run < runs && wrong == 0; run++) {
            RandomRunsTest one = new RandomRunsTest(first + run);
            one.go();
            wrong += one.wrong;
        }
        if (wrong > 0) {
            System.exit(1);
        }
    }

    private void go() {
        for (int tries = 0; tries < 4 && model.tab.cols.isEmpty(); tries++) {
            tellTablet();
        }
        while (calls.size() < CALLS && wrong == 0) {
            step();
        }
    }

    private void due(String call, long got, long want) {
        calls.add(call + " -> " + want);
        if (got != want && wrong++ == 0) {
            calls.forEach(System.out::println);
            System.out.println("run " + run + ": " + call + " answered " + got + ", due is " + want);
        }
    }

    private void due(String call, boolean got, boolean want) {
        due(call, got ? 1 : 0, want ? 1 : 0);
    }

    private void hand(List<Integer> bytes) {
        for (int i = 0; i < bytes.size() || i == 0; i += 20) {
            int[] n = new int[5];
            for (int k = 0; k < 20; k++) {
                n[k / 4] = n[k / 4] << 8 | (i + k < bytes.size() ? bytes.get(i + k) : 32);
            }
            due("feed", program.feed(n[0], n[1], n[2], n[3], n[4]), model.feed(n));
        }
        due("end(" + bytes.size() + ")", program.end(bytes.size()), model.end(bytes.size()));
    }

    private static List<Integer> bytes(String text) {
        List<Integer> all = new ArrayList<>();
        text.chars().forEach(all::add);
        return all;
    }

    private boolean oneIn(int n) {
        return random.nextInt(n) == 0;
    }

    private int number(int low, int high) {
        return low + random.nextInt(high - low + 1);
    }

    private String any(String... all) {
        return all[random.nextInt(all.length)];
    }

    // ---- texts

    private String spoilt(String text) {
        StringBuilder b = new StringBuilder(text);
        for (int i = number(1, 2); i > 0 && b.length() > 0; i--) {
            int at = random.nextInt(b.length());
            switch (random.nextInt(5)) {
                case 0 -> b.deleteCharAt(at);
                case 1 -> b.insert(at, any("9", "0", "x", "(", "[", "not ", " all", ";", ")", "]", "A", "\t", "\n", "marks"));
                case 2 -> b.setCharAt(at, any("9", "0", "x", "(", " ", ";", "+", "<", "\u00e9").charAt(0));
                case 3 -> b.setLength(at);
                default -> b.insert(at, b.substring(at, Math.min(b.length(), at + number(1, 9))));
            }
        }
        return b.toString();
    }

    private void tellTablet() {
        String text = tabletText();
        if (text.length() > 1500) {
            return;
        }
        if (oneIn(4)) {
            text = spoilt(text);
        }
        hand(bytes(text));
        due("tablet() " + text, program.tablet(), model.tablet());
        due("fault(0)", program.fault(0), model.fault(0));
        due("fault(1)", program.fault(1), model.fault(1));
    }

    private final List<String> names = new ArrayList<>();

    private String tabletText() {
        names.clear();
        deepest = oneIn(9) ? 8 : number(1, 4);
        StringBuilder b = new StringBuilder();
        int columns = oneIn(12) ? number(0, 9) : number(1, 5);
        int marksAt = random.nextInt(columns + 2);
        for (int i = 0; i < columns; i++) {
            if (i == marksAt) {
                b.append("marks ").append(test(0, false)).append(';');
            }
            if (oneIn(8)) {
                b.append("slip ").append(number(0, 100)).append(";");
            }
            b.append(column()).append(any(";", "; ", " ;\n"));
        }
        if (marksAt >= columns && !oneIn(4)) {
            b.append("marks ").append(test(0, false)).append(";");
        }
        if (!oneIn(3)) {
            b.append("slip ").append(number(20, 100)).append(";");
        }
        while (oneIn(40)) {
            b.append("slip 1;".repeat(number(1, 60)));
        }
        return b.toString();
    }

    private String column() {
        String name = any("a", "b", "sun", "moon", "node", "lati", "first", "zigzag", "c", "d", "e", "f", "g", "h", "q", "r", "s")
                + (oneIn(3) ? any("x", "yy") : "");
        String text;
        switch (random.nextInt(4)) {
            case 0 -> {
                int low = oneIn(3) ? 0 : number(0, 40);
                int high = oneIn(5) ? number(low + 1, 999) : low + number(1, 20);
                text = "zig " + name + " from " + low + " to " + high + " by " + number(1, high - low)
                        + " at " + number(low, high) + any(" up", " down");
            }
            case 1 -> {
                int of = oneIn(4) ? number(4, 999) : number(4, 30);
                int quick = number(2, of - 2);
                text = "arc " + name + " of " + of + " at " + number(0, of - 1) + " to " + quick
                        + " fast " + number(1, quick) + " slow " + number(1, of - quick);
            }
            case 2 -> {
                int of = oneIn(4) ? number(2, 999) : number(2, 25);
                text = "ring " + name + " of " + of + " at " + number(0, of - 1) + " by " + sum(0, false, true);
            }
            default -> text = "sum " + name + " is " + sum(0, false, true);
        }
        names.add(name);
        return text;
    }

    private String test(int depth, boolean asking) {
        String text = fact(depth, asking);
        while (oneIn(3) && text.length() < 200) {
            text += any(" and ", " or ") + fact(depth, asking);
        }
        return text;
    }

    private String fact(int depth, boolean asking) {
        switch (depth >= deepest ? 0 : random.nextInt(6)) {
            case 1: return oneIn(3) ? "all" : "not all";
            case 2: return "not " + fact(depth + 1, asking);
            case 3: return "[" + test(depth + 1, asking) + "]";
            default: return sum(depth, asking, false) + any(" < ", " > ", "=") + sum(depth, asking, false);
        }
    }

    private String sum(int depth, boolean asking, boolean prev) {
        String text = part(depth, asking, prev);
        while (oneIn(2) && text.length() < 100) {
            text += any("+", "-", "*", "/", " + ", " - ", "*", " / ") + part(depth, asking, prev);
        }
        return text;
    }

    private String part(int depth, boolean asking, boolean prev) {
        if (depth < deepest && oneIn(6)) {
            return any("min", "max") + "(" + sum(depth + 1, asking, prev) + "," + sum(depth + 1, asking, prev) + ")";
        }
        if (depth < deepest && oneIn(7)) {
            return "(" + sum(depth + 1, asking, prev) + ")";
        }
        if (asking && depth < deepest && oneIn(4)) {
            return any("ahead ", "col ") + part(depth + 1, asking, prev);
        }
        if (oneIn(3)) {
            return "" + (oneIn(8) ? number(1000, 9999) : oneIn(3) ? number(0, 300) : number(0, 9));
        }
        if (asking) {
            return any("number", "sort", "value", "drift", "line", "value");
        }
        if (prev && oneIn(3)) {
            return "prev";
        }
        return names.isEmpty() || oneIn(5) ? "line" : names.get(random.nextInt(names.size()));
    }

    // ---- calls

    private int aColumn() {
        return oneIn(12) ? number(-2, 8) : random.nextInt(Math.max(1, model.tab.cols.size()));
    }

    private int aValue(int column) {
        if (model.none(column) || oneIn(8)) {
            return number(-3, 1001);
        }
        return oneIn(8) ? number(model.tab.cols.get(column).low - 1, model.tab.cols.get(column).high + 1)
                : (int) model.later(column, number(0, Math.min(200, 999 - model.now.line)));
    }

    private void step() {
        int c = aColumn();
        int what = number(-1, 4);
        int n = oneIn(6) ? number(-1, 205) : number(0, 30);
        switch (random.nextInt(40)) {
            case 0 -> due("has(" + what + ")", program.has(what), model.has(what));
            case 1 -> {
                for (int i = 0; i < 8; i++) {
                    due("has(" + i + ")", program.has(i), model.has(i));
                }
            }
            case 2 -> {
                int k = number(-1, 6);
                due("letter(" + c + ", " + k + ")", program.letter(c, k), model.letter(c, k));
            }
            case 3 -> due("column(" + c + ", " + what + ")", program.column(c, what), model.column(c, what));
            case 4, 5 -> due("value(" + c + ", " + what + ")", program.value(c, what), model.value(c, what));
            case 6, 7 -> {
                int k = number(-1, 41);
                due("kept(" + k + ", " + what + ")", program.kept(k, what), model.kept(k, what));
            }
            case 8, 9 -> due("later(" + c + ", " + n + ")", program.later(c, n), model.later(c, n));
            case 10 -> due("bounds(" + c + ", " + n + ", " + what + ")", program.bounds(c, n, what), model.bounds(c, n, what));
            case 11 -> due("period(" + c + ")", program.period(c), model.period(c));
            case 12 -> {
                int v = aValue(c);
                due("when(" + c + ", " + v + ")", program.when(c, v), model.when(c, v));
            }
            case 13 -> {
                int d = aColumn();
                due("meet(" + c + ", " + d + ")", program.meet(c, d), model.meet(c, d));
            }
            case 14, 15 -> due("marks(" + n + ", " + what + ")", program.marks(n, what), model.marks(n, what));
            case 16, 17 -> {
                int h = oneIn(8) ? number(-1, 62) : number(1, 9);
                due("heal(" + h + ")", program.heal(h), model.heal(h));
            }
            case 18 -> due("odds(" + c + ")", program.odds(c), model.odds(c));
            case 19, 20 -> findPiece();
            case 21 -> {
                int k = number(-2, 9);
                due("fits(" + k + ")", program.fits(k), model.fits(k));
            }
            case 22, 23 -> {
                int k = number(-2, 3);
                due("differences(" + c + ", " + k + ")", program.differences(c, k), model.differences(c, k));
            }
            case 24 -> due("tells(" + what + ")", program.tells(what), model.tells(what));
            case 25, 26 -> {
                int lines = oneIn(14) ? number(-1, 101) : number(1, 9);
                due("write(" + lines + ")", program.write(lines), model.write(lines));
            }
            case 27, 28 -> {
                int v = aValue(c);
                due("put(" + c + ", " + v + ")", program.put(c, v), model.put(c, v));
            }
            case 29 -> due("turn(" + c + ")", program.turn(c), model.turn(c));
            case 30, 31 -> {
                int lines = oneIn(16) ? number(-1, 101) : number(1, 7);
                due("chance(" + lines + ")", program.chance(lines), model.chance(lines));
            }
            case 32 -> {
                for (int i = oneIn(5) ? 22 : number(1, 2); i > 0; i--) {
                    due("undo()", program.undo(), model.undo());
                }
            }
            case 33 -> {
                int s = oneIn(4) ? random.nextInt() : number(-1, 50);
                due("seed(" + s + ")", program.seed(s), model.seed(s));
            }
            case 34, 35, 36 -> askQuestion();
            case 37 -> {
                due("image()", program.image(), model.image());
                latestImage = new ArrayList<>(model.image);
                int k = number(-1, 36);
                due("octet(" + k + ")", program.octet(k), model.octet(k));
                for (int i = 0; i < latestImage.size(); i++) {
                    due("octet(" + i + ")", program.octet(i), model.octet(i));
                }
            }
            case 38 -> layImageOn();
            default -> rareStep();
        }
    }

    private void rareStep() {
        switch (random.nextInt(4)) {
            case 0 -> tellTablet();
            case 1 -> {
                int e = number(-3, 30);
                due("feed", program.feed(1, 2, 3, 4, 5), model.feed(1, 2, 3, 4, 5));
                due("end(" + e + ")", program.end(e), model.end(e));
                due("end(0)", program.end(0), model.end(0));
            }
            default -> {
                for (int i = -1; i < 7; i++) {
                    due("status(" + i + ")", program.status(i), model.status(i));
                }
            }
        }
    }

    private void askQuestion() {
        deepest = oneIn(9) ? 8 : number(1, 4);
        String text = oneIn(2) ? any("first ", "last ", "often ") + test(0, true)
                : any("total ", "most ", "least ") + sum(0, true, false);
        if (oneIn(5)) {
            text = spoilt(text);
        }
        if (text.length() > 800) {
            return;
        }
        hand(bytes(text));
        due("ask() " + text, program.ask(), model.ask());
        due("fault(0)", program.fault(0), model.fault(0));
        due("fault(1)", program.fault(1), model.fault(1));
    }

    private void findPiece() {
        List<Integer> rows = new ArrayList<>();
        int line = random.nextInt(400);
        for (int i = oneIn(10) ? number(0, 14) : number(1, 3); i > 0; i--) {
            int down = oneIn(40) ? 31 : oneIn(3) ? number(0, 30) : number(0, 3);
            int c = aColumn();
            int value = model.none(c) || down > 30 ? 1 : oneIn(12) ? number(0, 40)
                    : (int) model.truth(oneIn(2) ? down : line + down).values[c];
            rows.addAll(List.of(down, c & 255, value >> 8 & 255, value & 255));
        }
        if (oneIn(20)) {
            rows.add(7);
        }
        hand(rows);
        due("find() " + rows, program.find(), model.find());
    }

    private void layImageOn() {
        List<Integer> image = new ArrayList<>(latestImage);
        if (oneIn(3) && !image.isEmpty()) {
            int at = random.nextInt(image.size());
            image.set(at, oneIn(2) ? random.nextInt(256) : (image.get(at) + 1) % 256);
            if (oneIn(2)) {
                image.remove(image.size() - 1);
                image.add(Model.seal(image));
            }
        } else if (image.size() > 2 && oneIn(2)) {
            int line = oneIn(6) ? number(990, 1000) : number(0, 300);
            image.set(0, line / 256);
            image.set(1, line % 256);
            image.remove(image.size() - 1);
            image.add(Model.seal(image));
        }
        hand(image);
        due("on() " + image, program.on(), model.on());
        due("has(1)", program.has(1), model.has(1));
        due("has(3)", program.has(3), model.has(3));
    }
}
