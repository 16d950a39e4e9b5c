import java.util.ArrayDeque;
import java.util.ArrayList;
import java.util.Arrays;
import java.util.Collections;
import java.util.Deque;
import java.util.HashMap;
import java.util.List;
import java.util.Map;
import java.util.TreeMap;

/**
 * The document once more, written without regard to speed, room or LANGUAGE.md: trees, lists, exceptions,
 * and everything told anew for every question. RandomRunsTest holds the program against it.
 */
final class Model {
    static final int NONE = -1;
    static final long NOTHING = -1000000000000000L;

    static final class Fault extends Exception {
        private static final long serialVersionUID = 1L;
        final int kind;
        final int place;

        Fault(int kind, int place) {
            this.kind = kind;
            this.place = place;
        }
    }

    /** Where a sum is worked out. */
    static final class Where {
        State line;
        long prev;
        int column;
    }

    interface Node {
        long of(Where where);
    }

    static final class Col {
        String name;
        String sort;
        int low;
        int high;
        int difference;
        int start;
        boolean up;
        int quick;
        int fast;
        int slow;
        Node sum;
    }

    static final class Tab {
        final List<Col> cols = new ArrayList<>();
        Node marks;
        int slip;
        int statements;
    }

    static final class State {
        int line;
        long[] values;
        boolean[] up;

        State copy() {
            State s = new State();
            s.line = line;
            s.values = values.clone();
            s.up = up.clone();
            return s;
        }
    }

    record Undo(State state, List<int[]> kept) { }

    record Row(int down, int column, int value) { }

    final List<Integer> tape = new ArrayList<>();
    Tab tab = new Tab();
    State now = first(tab);
    Map<Integer, State> truths = new TreeMap<>();
    List<int[]> kept = new ArrayList<>();
    Deque<Undo> acts = new ArrayDeque<>();
    List<Row> found = new ArrayList<>();
    List<Integer> image = new ArrayList<>();
    long seed = 1;
    int faultKind;
    int faultPlace = NONE;
    final int[] refused = new int[6];

    // ---- the clock

    static long hold(long x) {
        return x > 1000000 ? 1000000 : x < -1000000 ? -1000000 : x;
    }

    static State first(Tab tab) {
        State s = new State();
        s.values = new long[tab.cols.size()];
        s.up = new boolean[tab.cols.size()];
        for (int i = 0; i < tab.cols.size(); i++) {
            Col c = tab.cols.get(i);
            if (c.sort.equals("sum")) {
                Where w = new Where();
                w.line = s;
                s.values[i] = c.sum.of(w);
            } else {
                s.values[i] = c.start;
                s.up[i] = c.sort.equals("zig") && c.up;
            }
        }
        return s;
    }

    static State behind(Tab tab, State before) {
        State s = before.copy();
        s.line++;
        for (int i = 0; i < tab.cols.size(); i++) {
            Col c = tab.cols.get(i);
            long v = before.values[i];
            Where w = new Where();
            w.line = s;
            w.prev = v;
            switch (c.sort) {
                case "zig" -> {
                    v += s.up[i] ? c.difference : -c.difference;
                    if (v > c.high) {
                        v = c.high - (v - c.high);
                        s.up[i] = false;
                    } else if (v < c.low) {
                        v = c.low + (c.low - v);
                        s.up[i] = true;
                    }
                }
                case "arc" -> {
                    if (v < c.quick) {
                        v += c.fast;
                        if (v >= c.quick) {
                            v = c.quick + (v - c.quick) * c.slow / c.fast;
                        }
                    } else {
                        v += c.slow;
                        if (v > c.high) {
                            v = (v - c.high - 1) * c.fast / c.slow;
                        }
                    }
                }
                case "ring" -> {
                    v += c.sum.of(w);
                    while (v < 0) {
                        v += c.high + 1;
                    }
                    v %= c.high + 1;
                }
                default -> v = c.sum.of(w);
            }
            s.values[i] = v;
        }
        return s;
    }

    State truth(int line) {
        State s = truths.get(line);
        if (s == null) {
            s = first(tab);
            truths.put(0, s);
            for (int i = 1; i <= line; i++) {
                s = behind(tab, s);
                truths.put(i, s);
            }
        }
        return s;
    }

    boolean marked(State s) {
        if (tab.marks == null) {
            return false;
        }
        Where w = new Where();
        w.line = s;
        return tab.marks.of(w) != 0;
    }

    int wrong(State s) {
        int n = 0;
        for (int i = 0; i < s.values.length; i++) {
            if (s.values[i] != truth(s.line).values[i]) {
                n++;
            }
        }
        return n;
    }

    List<State> ahead(int n) {
        List<State> states = new ArrayList<>();
        State s = now.copy();
        states.add(s);
        for (int i = 0; i < n && s.line < 999; i++) {
            s = behind(tab, s);
            states.add(s);
        }
        return states;
    }

    boolean none(int column) {
        return column < 0 || column >= tab.cols.size();
    }

    String sort(int column) {
        return none(column) ? "" : tab.cols.get(column).sort;
    }

    static long slipped(Col c, long v, int by) {
        if (c.sort.equals("sum")) {
            return v;
        }
        for (int i = 0; i < by; i++) {
            v = v == c.high ? c.low : v + 1;
        }
        return v;
    }

    int no(int kind) {
        refused[kind]++;
        return NONE;
    }

    long draw(int m) {
        seed = (1103515245L * seed + 12345) % (1L << 31);
        return seed / 64 % m;
    }

    // ---- the face

    int feed(int... numbers) {
        if (tape.size() + 20 > 1600) {
            return no(0);
        }
        for (int n : numbers) {
            for (int i = 3; i >= 0; i--) {
                tape.add(n >>> 8 * i & 255);
            }
        }
        return tape.size();
    }

    boolean end(int n) {
        if (n < 0 || n > tape.size()) {
            return no(0) == 0;
        }
        tape.subList(n, tape.size()).clear();
        return true;
    }

    int tablet() {
        try {
            Text text = new Text(tape, false);
            Tab read = text.tablet();
            tab = read;
            truths.clear();
            now = first(tab);
            kept = new ArrayList<>();
            found = new ArrayList<>();
            acts.clear();
            fault(0, NONE);
            return tab.statements;
        } catch (Fault f) {
            fault(f.kind, f.place);
            return no(1);
        } finally {
            tape.clear();
        }
    }

    private void fault(int kind, int place) {
        faultKind = kind;
        faultPlace = place;
    }

    int fault(int what) {
        return what == 0 ? faultKind : what == 1 ? faultPlace : NONE;
    }

    List<int[]> keptTold() {
        return kept.subList(Math.max(0, kept.size() - 40), kept.size());
    }

    int has(int what) {
        return switch (what) {
            case 0 -> tab.cols.size();
            case 1 -> now.line;
            case 2 -> marked(now) ? 1 : 0;
            case 3 -> wrong(now);
            case 4 -> keptTold().size();
            case 5 -> found.size();
            case 6 -> acts.size();
            default -> NONE;
        };
    }

    int letter(int column, int k) {
        if (none(column) || k < 0 || k > 5) {
            return NONE;
        }
        String name = tab.cols.get(column).name;
        return k < name.length() ? name.charAt(k) - 'a' + 1 : 0;
    }

    int column(int column, int what) {
        if (none(column)) {
            return NONE;
        }
        Col c = tab.cols.get(column);
        return switch (what) {
            case 0 -> Arrays.asList("zig", "arc", "ring", "sum").indexOf(c.sort);
            case 1 -> c.sort.equals("zig") && now.up[column] ? 1 : 0;
            case 2 -> c.sort.equals("sum") ? 0 : c.low;
            case 3 -> c.sort.equals("sum") ? 0 : c.high;
            default -> NONE;
        };
    }

    long value(int column, int what) {
        if (none(column) || what != 0 && what != 1) {
            return NOTHING;
        }
        return what == 0 ? now.values[column] : truth(now.line).values[column];
    }

    int kept(int k, int what) {
        return k < 0 || k >= keptTold().size() || what < 0 || what > 1 ? NONE : keptTold().get(k)[what];
    }

    long later(int column, int n) {
        return none(column) || n < 0 || n > 200 || now.line + n > 999 ? NOTHING : ahead(n).get(n).values[column];
    }

    long bounds(int column, int n, int what) {
        if (none(column) || n < 0 || n > 200 || now.line + n > 999 || what < 0 || what > 3) {
            return NOTHING;
        }
        List<Long> told = new ArrayList<>();
        for (State s : ahead(n)) {
            told.add(s.values[column]);
        }
        long best = what < 2 ? Collections.max(told) : Collections.min(told);
        return what % 2 == 0 ? best : told.indexOf(best);
    }

    int period(int column) {
        if (!sort(column).equals("zig") && !sort(column).equals("arc")) {
            return NONE;
        }
        Tab alone = new Tab();
        alone.cols.add(tab.cols.get(column));
        State s = new State();
        s.values = new long[] {now.values[column]};
        s.up = new boolean[] {now.up[column]};
        for (int n = 1; n <= 999; n++) {
            s = behind(alone, s);
            if (s.values[0] == now.values[column] && s.up[0] == now.up[column]) {
                return n;
            }
        }
        return NONE;
    }

    int when(int column, int value) {
        List<State> states = ahead(200);
        for (int n = 0; n < states.size() && !none(column); n++) {
            if (states.get(n).values[column] == value) {
                return n;
            }
        }
        return NONE;
    }

    int meet(int one, int other) {
        List<State> states = ahead(200);
        for (int n = 0; n < states.size() && !none(one) && !none(other) && one != other; n++) {
            if (states.get(n).values[one] == states.get(n).values[other]) {
                return n;
            }
        }
        return NONE;
    }

    int marks(int n, int what) {
        if (n < 1 || n > 200 || now.line + n > 999 || what < 0 || what > 2) {
            return NONE;
        }
        StringBuilder signs = new StringBuilder();
        for (State s : ahead(n)) {
            signs.append(marked(s) ? 'x' : '.');
        }
        String row = signs.substring(1);
        if (what == 0) {
            return row.replace(".", "").length();
        }
        if (what == 1) {
            return row.indexOf('x') + 1;
        }
        int longest = 0;
        for (String unmarked : row.split("x")) {
            longest = Math.max(longest, unmarked.length());
        }
        return longest;
    }

    int heal(int n) {
        if (n < 1 || n > 60 || now.line + n > 999) {
            return NONE;
        }
        for (int size = 0; size <= tab.cols.size(); size++) {
            for (int bits = 0; bits < 1 << tab.cols.size(); bits++) {
                if (Integer.bitCount(bits) == size && heals(bits, n)) {
                    return bits;
                }
            }
        }
        return NONE;
    }

    private boolean heals(int bits, int n) {
        State s = now.copy();
        for (int i = 0; i < tab.cols.size(); i++) {
            if ((bits & 1 << i) != 0) {
                if (sort(i).equals("sum")) {
                    return false;
                }
                s.values[i] = truth(now.line).values[i];
                s.up[i] = truth(now.line).up[i];
            }
        }
        for (int i = 1; i <= n; i++) {
            s = behind(tab, s);
            if (wrong(s) > 0) {
                return false;
            }
        }
        return true;
    }

    int odds(int column) {
        int cols = tab.cols.size();
        if (column != NONE && none(column) || cols == 0 || now.line == 999) {
            return NONE;
        }
        State next = behind(tab, now);
        int count = 0;
        for (int number = 0; number < 100; number++) {
            for (int drawn = 0; drawn < cols; drawn++) {
                for (int by = 0; by < 9; by++) {
                    State s = next.copy();
                    if (number < tab.slip) {
                        s.values[drawn] = slipped(tab.cols.get(drawn), s.values[drawn], by + 1);
                    }
                    if (column == NONE || s.values[column] == truth(s.line).values[column]) {
                        count++;
                    }
                }
            }
        }
        return count;
    }

    int find() {
        List<Integer> bytes = new ArrayList<>(tape);
        tape.clear();
        if (bytes.isEmpty() || bytes.size() > 48 || bytes.size() % 4 != 0) {
            return no(1);
        }
        List<Row> rows = new ArrayList<>();
        for (int i = 0; i < bytes.size(); i += 4) {
            Row row = new Row(bytes.get(i), bytes.get(i + 1), bytes.get(i + 2) * 256 + bytes.get(i + 3));
            if (row.down > 30 || none(row.column) || sort(row.column).equals("sum")
                    || row.value < tab.cols.get(row.column).low || row.value > tab.cols.get(row.column).high) {
                return no(1);
            }
            rows.add(row);
        }
        found = rows;
        return rows.size();
    }

    List<Integer> fitting() {
        List<Integer> lines = new ArrayList<>();
        for (int line = 0; line < 400; line++) {
            int at = line;
            if (found.stream().allMatch(r -> truth(at + r.down).values[r.column] == r.value)) {
                lines.add(line);
            }
        }
        return lines;
    }

    private static int nth(List<Integer> all, int k) {
        return k == NONE ? all.size() : k >= 0 && k < all.size() ? all.get(k) : NONE;
    }

    int fits(int k) {
        return nth(fitting(), k);
    }

    int differences(int column, int k) {
        if (!sort(column).equals("zig")) {
            return NONE;
        }
        Col c = tab.cols.get(column);
        int own = c.difference;
        List<Integer> all = new ArrayList<>();
        for (int d = 1; d <= c.high - c.low; d++) {
            c.difference = d;
            List<State> states = new ArrayList<>();
            states.add(first(tab));
            for (int i = 0; i < 30; i++) {
                states.add(behind(tab, states.get(i)));
            }
            if (found.stream().allMatch(r -> states.get(r.down).values[r.column] == r.value)) {
                all.add(d);
            }
        }
        c.difference = own;
        return nth(all, k);
    }

    int tells(int what) {
        List<Integer> lines = fitting();
        int[] best = null;
        for (int down = 0; down <= 30; down++) {
            for (int i = 0; i < tab.cols.size(); i++) {
                if (sort(i).equals("sum") || lines.isEmpty()) {
                    continue;
                }
                Map<Long, Integer> groups = new HashMap<>();
                for (int line : lines) {
                    groups.merge(truth(line + down).values[i], 1, Integer::sum);
                }
                int most = Collections.max(groups.values());
                if (best == null || most < best[2]) {
                    best = new int[] {down, i, most};
                }
            }
        }
        return best == null || what < 0 || what > 2 ? NONE : best[what];
    }

    private void remember() {
        acts.addLast(new Undo(now.copy(), new ArrayList<>(kept)));
        if (acts.size() > 20) {
            acts.removeFirst();
        }
    }

    private boolean keep() {
        if (!marked(now)) {
            return false;
        }
        kept.add(new int[] {now.line, wrong(now)});
        return true;
    }

    int write(int n) {
        if (n < 1 || n > 100 || now.line + n > 999) {
            return no(3);
        }
        remember();
        int marked = 0;
        for (int i = 0; i < n; i++) {
            now = behind(tab, now);
            marked += keep() ? 1 : 0;
        }
        return marked;
    }

    boolean put(int column, int value) {
        if (none(column) || sort(column).equals("sum") || now.values[column] == value
                || value < tab.cols.get(column).low || value > tab.cols.get(column).high) {
            return no(2) == 0;
        }
        remember();
        now.values[column] = value;
        return true;
    }

    boolean turn(int column) {
        if (!sort(column).equals("zig")) {
            return no(2) == 0;
        }
        remember();
        now.up[column] = !now.up[column];
        return true;
    }

    int chance(int n) {
        if (n < 1 || n > 100 || now.line + n > 999) {
            return no(3);
        }
        remember();
        int slips = 0;
        for (int i = 0; i < n; i++) {
            now = behind(tab, now);
            if (draw(100) < tab.slip && !tab.cols.isEmpty()) {
                int c = (int) draw(tab.cols.size());
                int by = (int) draw(9) + 1;
                now.values[c] = slipped(tab.cols.get(c), now.values[c], by);
                slips += sort(c).equals("sum") ? 0 : 1;
            }
            keep();
        }
        return slips;
    }

    boolean undo() {
        if (acts.isEmpty()) {
            return no(4) == 0;
        }
        Undo last = acts.removeLast();
        now = last.state;
        kept = last.kept;
        return true;
    }

    boolean seed(int to) {
        if (to < 0) {
            return no(5) == 0;
        }
        seed = to;
        return true;
    }

    long ask() {
        try {
            Text text = new Text(tape, true);
            String kind = text.question();
            fault(0, NONE);
            return answer(kind, text.asked);
        } catch (Fault f) {
            fault(f.kind, f.place);
            return NOTHING;
        } finally {
            tape.clear();
        }
    }

    private long answer(String kind, Node node) {
        List<Long> told = new ArrayList<>();
        for (int i = 0; i < tab.cols.size(); i++) {
            Where w = new Where();
            w.line = now;
            w.column = i;
            told.add(node.of(w));
        }
        return switch (kind) {
            case "first" -> told.indexOf(1L);
            case "last" -> told.lastIndexOf(1L);
            case "most" -> told.isEmpty() ? 0 : Collections.max(told);
            case "least" -> told.isEmpty() ? 0 : Collections.min(told);
            default -> told.stream().mapToLong(x -> x).sum();
        };
    }

    static int seal(List<Integer> bytes) {
        int c = 181;
        for (int b : bytes) {
            c = (3 * c + b) % 251;
        }
        return c;
    }

    int image() {
        image = new ArrayList<>(List.of(now.line >> 8, now.line & 255));
        for (int i = 0; i < tab.cols.size(); i++) {
            int v = (int) now.values[i] + 1000000;
            image.addAll(List.of(v / 65536, v / 256 % 256, v % 256, now.up[i] ? 1 : 0));
        }
        image.add(seal(image));
        return image.size();
    }

    int octet(int k) {
        return k < 0 || k >= image.size() ? NONE : image.get(k);
    }

    boolean on() {
        List<Integer> b = new ArrayList<>(tape);
        tape.clear();
        int cols = tab.cols.size();
        if (b.size() != 3 + 4 * cols || seal(b.subList(0, b.size() - 1)) != b.get(b.size() - 1)) {
            return no(5) == 0;
        }
        State s = new State();
        s.line = b.get(0) * 256 + b.get(1);
        s.values = new long[cols];
        s.up = new boolean[cols];
        boolean good = s.line <= 999;
        for (int i = 0; i < cols; i++) {
            Col c = tab.cols.get(i);
            boolean sum = c.sort.equals("sum");
            int at = 2 + 4 * i;
            s.values[i] = b.get(at) * 65536 + b.get(at + 1) * 256 + b.get(at + 2) - 1000000;
            s.up[i] = b.get(at + 3) == 1;
            good &= s.values[i] >= (sum ? -1000000 : c.low) && s.values[i] <= (sum ? 1000000 : c.high);
            good &= b.get(at + 3) == 0 || b.get(at + 3) == 1 && c.sort.equals("zig");
        }
        if (!good) {
            return no(5) == 0;
        }
        now = s;
        kept = new ArrayList<>();
        acts.clear();
        return true;
    }

    int status(int what) {
        return what < 0 || what > 5 ? NONE : refused[what];
    }

    // ---- texts

    final class Text {
        private static final String OWN = " zig arc ring sum from to by at up down of fast slow is marks slip line prev"
                + " number sort value drift ahead col or and not all min max ";
        private final String text;
        private final boolean question;
        private int at;
        private int open;
        private boolean prev;
        private Tab into = new Tab();
        Node asked;

        Text(List<Integer> bytes, boolean question) {
            StringBuilder b = new StringBuilder();
            for (int one : bytes) {
                b.append((char) one);
            }
            text = b.toString();
            this.question = question;
        }

        private boolean is(int place, String kind) {
            return place >= 0 && place < text.length() && String.valueOf(text.charAt(place)).matches(kind);
        }

        /** The word, number or sign at the next place that is not blank; "" at the end or where two are glued. */
        private String peek() {
            while (is(at, "[ \n]")) {
                at++;
            }
            if (is(at, "[a-z0-9]") && is(at - 1, "[a-z0-9]")) {
                return "";
            }
            String kind = is(at, "[a-z]") ? "[a-z]" : is(at, "[0-9]") ? "[0-9]" : null;
            int to = at;
            while (kind != null && is(to, kind)) {
                to++;
            }
            return kind == null && at < text.length() ? text.substring(at, at + 1) : text.substring(at, to);
        }

        private boolean atEnd() {
            peek();
            return at == text.length();
        }

        private String unfit() throws Fault {
            peek();
            throw new Fault(1, at);
        }

        private boolean got(String token) {
            if (!peek().equals(token)) {
                return false;
            }
            at += token.length();
            return true;
        }

        private void need(String token) throws Fault {
            if (!got(token)) {
                unfit();
            }
        }

        private int number(int low, int high) throws Fault {
            String digits = peek();
            if (!digits.matches("[0-9]+")) {
                unfit();
            }
            if (digits.length() > 4) {
                throw new Fault(1, at + 4);
            }
            int n = Integer.parseInt(digits);
            if (n < low || n > high) {
                throw new Fault(2, at);
            }
            at += digits.length();
            return n;
        }

        private String name() throws Fault {
            String word = peek();
            if (!word.matches("[a-z]+") || OWN.contains(" " + word + " ")) {
                unfit();
            }
            if (word.length() > 6) {
                throw new Fault(1, at + 6);
            }
            for (Col c : into.cols) {
                if (c.name.equals(word)) {
                    throw new Fault(3, at);
                }
            }
            at += word.length();
            return word;
        }

        Tab tablet() throws Fault {
            while (!atEnd()) {
                if (into.statements == 60) {
                    throw new Fault(5, at);
                }
                statement();
                need(";");
                into.statements++;
            }
            return into;
        }

        private void statement() throws Fault {
            String word = peek();
            int place = at;
            if (got("slip")) {
                into.slip = number(0, 100);
            } else if (got("marks")) {
                if (into.marks != null) {
                    throw new Fault(5, place);
                }
                into.marks = test();
            } else if (got("zig") || got("arc") || got("ring") || got("sum")) {
                if (into.cols.size() == 8) {
                    throw new Fault(5, place);
                }
                column(word);
            } else {
                unfit();
            }
        }

        private void column(String sort) throws Fault {
            Col c = new Col();
            c.sort = sort;
            c.name = name();
            switch (sort) {
                case "zig" -> {
                    need("from");
                    c.low = number(0, 999);
                    need("to");
                    c.high = number(c.low + 1, 999);
                    need("by");
                    c.difference = number(1, c.high - c.low);
                    need("at");
                    c.start = number(c.low, c.high);
                    c.up = got("up");
                    if (!c.up) {
                        need("down");
                    }
                }
                case "arc" -> {
                    need("of");
                    int places = number(4, 999);
                    c.high = places - 1;
                    need("at");
                    c.start = number(0, c.high);
                    need("to");
                    c.quick = number(2, places - 2);
                    need("fast");
                    c.fast = number(1, c.quick);
                    need("slow");
                    c.slow = number(1, places - c.quick);
                }
                case "ring" -> {
                    need("of");
                    c.high = number(2, 999) - 1;
                    need("at");
                    c.start = number(0, c.high);
                    need("by");
                }
                default -> need("is");
            }
            if (sort.equals("ring") || sort.equals("sum")) {
                prev = true;
                c.sum = sum();
                prev = false;
            }
            into.cols.add(c);
        }

        String question() throws Fault {
            String kind = peek();
            if (got("first") || got("last") || got("often")) {
                asked = test();
            } else if (got("total") || got("most") || got("least")) {
                asked = sum();
            } else {
                unfit();
            }
            if (!atEnd()) {
                unfit();
            }
            return kind;
        }

        private Node test() throws Fault {
            Node one = both();
            while (got("or")) {
                Node left = one;
                Node right = both();
                one = w -> left.of(w) + right.of(w) > 0 ? 1 : 0;
            }
            return one;
        }

        private Node both() throws Fault {
            Node one = fact();
            while (got("and")) {
                Node left = one;
                Node right = fact();
                one = w -> left.of(w) * right.of(w);
            }
            return one;
        }

        private void opened(int place) throws Fault {
            open++;
            if (open == 7) {
                throw new Fault(4, place);
            }
        }

        private Node fact() throws Fault {
            peek();
            int place = at;
            if (got("not")) {
                opened(place);
                Node one = fact();
                open--;
                return w -> one.of(w) == 0 ? 1 : 0;
            }
            if (got("[")) {
                opened(place);
                Node one = test();
                need("]");
                open--;
                return one;
            }
            if (got("all")) {
                return w -> 1;
            }
            Node left = sum();
            String sign = peek();
            if (!got("<") && !got(">") && !got("=")) {
                unfit();
            }
            Node right = sum();
            return w -> {
                int c = Long.compare(left.of(w), right.of(w));
                return (sign.equals("<") ? c < 0 : sign.equals(">") ? c > 0 : c == 0) ? 1 : 0;
            };
        }

        private Node sum() throws Fault {
            Node one = product();
            while (true) {
                Node left = one;
                if (got("+")) {
                    Node right = product();
                    one = w -> hold(left.of(w) + right.of(w));
                } else if (got("-")) {
                    Node right = product();
                    one = w -> hold(left.of(w) - right.of(w));
                } else {
                    return one;
                }
            }
        }

        private Node product() throws Fault {
            Node one = part();
            while (true) {
                Node left = one;
                if (got("*")) {
                    Node right = part();
                    one = w -> hold(left.of(w) * right.of(w));
                } else if (got("/")) {
                    Node right = part();
                    one = w -> right.of(w) == 0 ? 0 : (long) Math.floor((double) left.of(w) / right.of(w));
                } else {
                    return one;
                }
            }
        }

        private void bracket() throws Fault {
            if (!peek().equals("(")) {
                unfit();
            }
            opened(at);
            at++;
        }

        private void closed() throws Fault {
            need(")");
            open--;
        }

        private Node part() throws Fault {
            String word = peek();
            if (word.matches("[0-9]+")) {
                int n = number(0, 9999);
                return w -> n;
            }
            if (word.equals("(")) {
                bracket();
                Node one = sum();
                closed();
                return one;
            }
            if (got("min") || got("max")) {
                bracket();
                Node left = sum();
                need(",");
                Node right = sum();
                closed();
                return w -> word.equals("min") ? Math.min(left.of(w), right.of(w)) : Math.max(left.of(w), right.of(w));
            }
            return question ? askedPart(word) : toldPart(word);
        }

        private Node toldPart(String word) throws Fault {
            if (got("line")) {
                return w -> w.line.line;
            }
            if (prev && got("prev")) {
                return w -> w.prev;
            }
            for (int i = 0; i < into.cols.size(); i++) {
                int which = i;
                if (into.cols.get(i).name.equals(word)) {
                    at += word.length();
                    return w -> w.line.values[which];
                }
            }
            unfit();
            return null;
        }

        private Node askedPart(String word) throws Fault {
            int place = at;
            if (got("ahead") || got("col")) {
                opened(place);
                Node one = part();
                open--;
                if (word.equals("col")) {
                    return w -> one.of(w) < 0 || one.of(w) >= tab.cols.size() ? 0 : now.values[(int) one.of(w)];
                }
                return w -> Math.max(NOTHING, later(w.column, (int) one.of(w)) == NOTHING ? 0
                        : later(w.column, (int) one.of(w)));
            }
            if (got("number")) {
                return w -> w.column;
            }
            if (got("sort")) {
                return w -> Model.this.column(w.column, 0);
            }
            if (got("value")) {
                return w -> now.values[w.column];
            }
            if (got("drift")) {
                return w -> hold(now.values[w.column] - truth(now.line).values[w.column]);
            }
            if (got("line")) {
                return w -> now.line;
            }
            unfit();
            return null;
        }
    }
}
