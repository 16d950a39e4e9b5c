/** Old clocks of heaven, told as a text and carried on line by line. */
public final class ZigzagTablets {
    public static final int NONE = -1;
    public static final long NOTHING = -1000000000000000L;

    private static final int MOST_COLUMNS = 8;
    private static final int NAME_LETTERS = 6;
    private static final int LAST_LINE = 999;
    private static final int MOST_AHEAD = 200;
    private static final int MOST_PERIOD = 999;
    private static final int MOST_HEALED = 60;
    private static final int MOST_WRITTEN = 100;
    private static final int BOUND = 1000000;
    private static final int CHANCES = 100;
    private static final int SLIP_SIZES = 9;
    private static final int IMAGE_HEAD = 2;
    private static final int IMAGE_COLUMN = 4;

    private static final int ZIG = 0;
    private static final int ARC = 1;
    private static final int RING = 2;
    private static final int SUM = 3;

    private static final int REFUSED_TAPE = 0;
    private static final int REFUSED_TEXT = 1;
    private static final int REFUSED_COLUMN = 2;
    private static final int REFUSED_LINES = 3;
    private static final int REFUSED_UNDO = 4;
    private static final int REFUSED_STATE = 5;

    private final Tape tape = new Tape();
    private final Line now = new Line();
    private final Line trial = new Line();
    private final Course truth = new Course(LAST_LINE + 1);
    private final Course ahead = new Course(MOST_AHEAD + 1);
    private final History history = new History();
    private final Piece piece = new Piece(truth);
    private final Reader reader = new Reader(tape);
    private final Question question = new Question(now, truth, ahead);
    private final int[] picture = new int[IMAGE_HEAD + IMAGE_COLUMN * MOST_COLUMNS + 1];
    private final int[] refusals = new int[6];
    private Tablet clock = new Tablet();
    private Tablet spare = new Tablet();
    private int pictureLength;
    private int faultKind;
    private int faultPlace = NONE;
    private long random = 1;

    public ZigzagTablets() {
        startAgain();
    }

    public int feed(int a, int b, int c, int d, int e) {
        if (tape.length + Tape.FED > Tape.MOST) {
            return none(REFUSED_TAPE);
        }
        tape.add(a);
        tape.add(b);
        tape.add(c);
        tape.add(d);
        tape.add(e);
        return tape.length;
    }

    public boolean end(int n) {
        if (n < 0 || n > tape.length) {
            return refused(REFUSED_TAPE);
        }
        tape.length = n;
        return true;
    }

    public int tablet() {
        boolean told = reader.readTablet(spare);
        noteFault();
        if (!told) {
            return none(REFUSED_TEXT);
        }
        Tablet old = clock;
        clock = spare;
        spare = old;
        startAgain();
        return clock.statements;
    }

    public int fault(int what) {
        if (what == 0) {
            return faultKind;
        }
        return what == 1 ? faultPlace : NONE;
    }

    public int has(int what) {
        switch (what) {
            case 0: return clock.count;
            case 1: return now.number;
            case 2: return clock.isMarked(now) ? 1 : 0;
            case 3: return untrueColumns();
            case 4: return history.keptTold();
            case 5: return piece.rows;
            case 6: return history.acts;
            default: return NONE;
        }
    }

    public int letter(int column, int k) {
        if (!isColumn(column) || k < 0 || k >= NAME_LETTERS) {
            return NONE;
        }
        return clock.columns[column].name[k];
    }

    public int column(int column, int what) {
        if (!isColumn(column)) {
            return NONE;
        }
        Column asked = clock.columns[column];
        switch (what) {
            case 0: return asked.sort;
            case 1: return now.goesUp(column) ? 1 : 0;
            case 2: return asked.least;
            case 3: return asked.greatest;
            default: return NONE;
        }
    }

    public long value(int column, int what) {
        if (!isColumn(column) || what < 0 || what > 1) {
            return NOTHING;
        }
        return what == 0 ? now.values[column] : truth.told(now.number, column);
    }

    public int kept(int k, int what) {
        if (k < 0 || k >= history.keptTold()) {
            return NONE;
        }
        if (what == 0) {
            return history.keptLine(k);
        }
        return what == 1 ? history.keptUntrue(k) : NONE;
    }

    // ---- ahead

    public long later(int column, int n) {
        if (!isColumn(column) || !isAhead(n, 0, MOST_AHEAD)) {
            return NOTHING;
        }
        ahead.reach(n);
        return ahead.told(n, column);
    }

    public long bounds(int column, int n, int what) {
        if (!isColumn(column) || !isAhead(n, 0, MOST_AHEAD) || what < 0 || what > 3) {
            return NOTHING;
        }
        ahead.reach(n);
        boolean greatest = what < 2;
        int best = 0;
        for (int i = 1; i <= n; i++) {
            int more = ahead.told(i, column) - ahead.told(best, column);
            if (greatest ? more > 0 : more < 0) {
                best = i;
            }
        }
        return what % 2 == 0 ? ahead.told(best, column) : best;
    }

    public int period(int column) {
        if (!isColumn(column) || clock.columns[column].sort > ARC) {
            return NONE;
        }
        trial.copy(now);
        for (int n = 1; n <= MOST_PERIOD; n++) {
            clock.move(trial, column, clock.columns[column].step);
            if (trial.values[column] == now.values[column]
                    && trial.goesUp(column) == now.goesUp(column)) {
                return n;
            }
        }
        return NONE;
    }

    public int when(int column, int value) {
        if (!isColumn(column)) {
            return NONE;
        }
        int most = mostAhead();
        ahead.reach(most);
        for (int n = 0; n <= most; n++) {
            if (ahead.told(n, column) == value) {
                return n;
            }
        }
        return NONE;
    }

    public int meet(int one, int other) {
        if (!isColumn(one) || !isColumn(other) || one == other) {
            return NONE;
        }
        int most = mostAhead();
        ahead.reach(most);
        for (int n = 0; n <= most; n++) {
            if (ahead.told(n, one) == ahead.told(n, other)) {
                return n;
            }
        }
        return NONE;
    }

    public int marks(int n, int what) {
        if (!isAhead(n, 1, MOST_AHEAD) || what < 0 || what > 2) {
            return NONE;
        }
        ahead.reach(n);
        int marked = 0;
        int first = 0;
        int row = 0;
        int longest = 0;
        for (int i = 1; i <= n; i++) {
            ahead.show(i, now.number + i, trial);
            if (clock.isMarked(trial)) {
                first = marked == 0 ? i : first;
                marked++;
                row = 0;
            } else {
                row++;
                longest = Math.max(longest, row);
            }
        }
        if (what == 0) {
            return marked;
        }
        return what == 1 ? first : longest;
    }

    // ---- what is true

    public int heal(int n) {
        if (!isAhead(n, 1, MOST_HEALED)) {
            return NONE;
        }
        truth.reach(now.number + n);
        int astray = columnsAstray();
        int best = NONE;
        int fewest = MOST_COLUMNS + 1;
        for (int set = 0; set < 1 << clock.count; set++) {
            // To set a column that is right already mends nothing, so no fewest set has one.
            boolean useful = (set & ~astray) == 0;
            if (useful && Integer.bitCount(set) < fewest && heals(set, n)) {
                best = set;
                fewest = Integer.bitCount(set);
            }
        }
        return best;
    }

    public int odds(int column) {
        if (clock.count == 0 || now.number >= LAST_LINE || column < NONE || column >= clock.count) {
            return NONE;
        }
        int all = CHANCES * clock.count * SLIP_SIZES;
        if (column == NONE) {
            return all;
        }
        ahead.reach(1);
        truth.reach(now.number + 1);
        int comes = ahead.told(1, column);
        int due = truth.told(now.number + 1, column);
        int other = all - clock.slip * SLIP_SIZES;
        int odds = comes == due ? other : 0;
        for (int draw = 0; draw < SLIP_SIZES; draw++) {
            if (clock.columns[column].slipped(comes, draw + 1) == due) {
                odds += clock.slip;
            }
        }
        return odds;
    }

    // ---- broken pieces

    public int find() {
        boolean found = piece.read(tape, clock);
        tape.length = 0;
        return found ? piece.rows : none(REFUSED_TEXT);
    }

    public int fits(int k) {
        truth.reach(Piece.LAST_REACHED);
        piece.listFits();
        if (k == NONE) {
            return piece.fits;
        }
        return k >= 0 && k < piece.fits ? piece.fitting[k] : NONE;
    }

    public int differences(int column, int k) {
        if (!isColumn(column) || clock.columns[column].sort != ZIG) {
            return NONE;
        }
        piece.listDifferences(clock, column);
        if (k == NONE) {
            return piece.differing;
        }
        return k >= 0 && k < piece.differing ? piece.differences[k] : NONE;
    }

    public int tells(int what) {
        truth.reach(Piece.LAST_REACHED);
        piece.listFits();
        piece.weigh(clock);
        if (piece.tellingLeft == 0) {
            return NONE;
        }
        switch (what) {
            case 0: return piece.tellingDown;
            case 1: return piece.tellingColumn;
            case 2: return piece.tellingLeft;
            default: return NONE;
        }
    }

    // ---- acts

    public int write(int n) {
        if (!isAhead(n, 1, MOST_WRITTEN)) {
            return none(REFUSED_LINES);
        }
        history.remember(now);
        truth.reach(now.number + n);
        int marked = 0;
        for (int i = 0; i < n; i++) {
            clock.next(now, NONE, 0);
            if (keepIfMarked()) {
                marked++;
            }
        }
        settle();
        return marked;
    }

    public boolean put(int column, int value) {
        if (!isColumn(column) || !clock.columns[column].moves()
                || !clock.columns[column].canTell(value) || now.values[column] == value) {
            return refused(REFUSED_COLUMN);
        }
        history.remember(now);
        now.values[column] = value;
        settle();
        return true;
    }

    public boolean turn(int column) {
        if (!isColumn(column) || clock.columns[column].sort != ZIG) {
            return refused(REFUSED_COLUMN);
        }
        history.remember(now);
        now.go(column, !now.goesUp(column));
        settle();
        return true;
    }

    public int chance(int n) {
        if (!isAhead(n, 1, MOST_WRITTEN)) {
            return none(REFUSED_LINES);
        }
        history.remember(now);
        truth.reach(now.number + n);
        int slips = 0;
        for (int i = 0; i < n; i++) {
            clock.next(now, NONE, 0);
            if (slipByTheSeed()) {
                slips++;
            }
            keepIfMarked();
        }
        settle();
        return slips;
    }

    public boolean undo() {
        if (!history.goBack(now)) {
            return refused(REFUSED_UNDO);
        }
        settle();
        return true;
    }

    public boolean seed(int seed) {
        if (seed < 0) {
            return refused(REFUSED_STATE);
        }
        random = seed;
        return true;
    }

    // ---- questions

    public long ask() {
        boolean told = reader.readQuestion();
        noteFault();
        if (!told) {
            return NOTHING;
        }
        ahead.reach(mostAhead());
        return question.answer(clock, reader.questionSort, reader.questionCode);
    }

    // ---- images, refusals

    public int image() {
        picture[0] = now.number / 256;
        picture[1] = now.number % 256;
        int at = IMAGE_HEAD;
        for (int i = 0; i < clock.count; i++) {
            int raised = now.values[i] + BOUND;
            picture[at] = raised >> 16 & 255;
            picture[at + 1] = raised >> 8 & 255;
            picture[at + 2] = raised & 255;
            picture[at + 3] = now.goesUp(i) ? 1 : 0;
            at += IMAGE_COLUMN;
        }
        picture[at] = sealOf(picture, at);
        pictureLength = at + 1;
        return pictureLength;
    }

    public int octet(int k) {
        return k >= 0 && k < pictureLength ? picture[k] : NONE;
    }

    public boolean on() {
        boolean read = readImage(trial);
        tape.length = 0;
        if (!read) {
            return refused(REFUSED_STATE);
        }
        now.copy(trial);
        history.forget();
        settle();
        return true;
    }

    public int status(int what) {
        return what >= 0 && what < refusals.length ? refusals[what] : NONE;
    }

    private int none(int kind) {
        refusals[kind]++;
        return NONE;
    }

    private boolean refused(int kind) {
        refusals[kind]++;
        return false;
    }

    private void noteFault() {
        faultKind = reader.fault;
        faultPlace = reader.faultPlace;
        tape.length = 0;
    }

    private void startAgain() {
        clock.begin(now);
        truth.begin(clock, now);
        ahead.begin(clock, now);
        history.forget();
        piece.forget();
    }

    /** Whatever has moved now: what is ahead is told anew, and what is true is known as far as here. */
    private void settle() {
        ahead.begin(clock, now);
        truth.reach(now.number);
    }

    private boolean isColumn(int column) {
        return column >= 0 && column < clock.count;
    }

    private boolean isAhead(int n, int fewest, int most) {
        return n >= fewest && n <= most && n <= LAST_LINE - now.number;
    }

    private int mostAhead() {
        return Math.min(MOST_AHEAD, LAST_LINE - now.number);
    }

    private int untrueColumns() {
        int untrue = 0;
        for (int i = 0; i < clock.count; i++) {
            if (now.values[i] != truth.told(now.number, i)) {
                untrue++;
            }
        }
        return untrue;
    }

    private boolean keepIfMarked() {
        if (!clock.isMarked(now)) {
            return false;
        }
        history.keep(now.number, untrueColumns());
        return true;
    }

    /** The columns, as bits, that would be another way if they were set to what is true. */
    private int columnsAstray() {
        int astray = 0;
        for (int i = 0; i < clock.count; i++) {
            boolean right = now.values[i] == truth.told(now.number, i)
                    && now.goesUp(i) == truth.goesUp(now.number, i);
            if (clock.columns[i].moves() && !right) {
                astray |= 1 << i;
            }
        }
        return astray;
    }

    private boolean heals(int set, int n) {
        trial.copy(now);
        for (int i = 0; i < clock.count; i++) {
            if ((set >> i & 1) == 1) {
                trial.values[i] = truth.told(now.number, i);
                trial.go(i, truth.goesUp(now.number, i));
            }
        }
        for (int line = 1; line <= n; line++) {
            clock.next(trial, NONE, 0);
            for (int i = 0; i < clock.count; i++) {
                if (trial.values[i] != truth.told(now.number + line, i)) {
                    return false;
                }
            }
        }
        return true;
    }

    private int draw(int below) {
        random = (1103515245L * random + 12345L) & 0x7fffffffL;
        return below > 0 ? (int) (random / 64 % below) : 0;
    }

    private boolean slipByTheSeed() {
        if (draw(CHANCES) >= clock.slip || clock.count == 0) {
            return false;
        }
        int column = draw(clock.count);
        int size = draw(SLIP_SIZES) + 1;
        if (!isColumn(column) || !clock.columns[column].moves()) {
            return false;
        }
        now.values[column] = clock.columns[column].slipped(now.values[column], size);
        return true;
    }

    private boolean readImage(Line line) {
        int last = IMAGE_HEAD + IMAGE_COLUMN * clock.count;
        if (tape.length != last + 1 || tape.bytes[last] != sealOf(tape.bytes, last)) {
            return false;
        }
        line.number = tape.bytes[0] * 256 + tape.bytes[1];
        line.ups = 0;
        if (line.number > LAST_LINE) {
            return false;
        }
        for (int i = 0; i < clock.count; i++) {
            Column column = clock.columns[i];
            int at = IMAGE_HEAD + IMAGE_COLUMN * i;
            int value = tape.pair(at) * 256 + tape.bytes[at + 2] - BOUND;
            int up = tape.bytes[at + 3];
            boolean can = column.moves() ? column.canTell(value) : value <= BOUND;
            if (!can || up > (column.sort == ZIG ? 1 : 0)) {
                return false;
            }
            line.values[i] = value;
            line.go(i, up == 1);
        }
        return true;
    }

    private static int sealOf(int[] bytes, int length) {
        int seal = 181;
        for (int i = 0; i < length && i < bytes.length; i++) {
            seal = (3 * seal + bytes[i]) % 251;
        }
        return seal;
    }

    /** The bytes that wait to be read as a text, a piece or an image. */
    private static final class Tape {
        static final int MOST = 1600;
        static final int FED = 20;
        final int[] bytes = new int[MOST];
        int length;

        void add(int number) {
            for (int shift = 24; shift >= 0 && length < MOST; shift -= 8) {
                bytes[length] = number >> shift & 255;
                length++;
            }
        }

        int pair(int place) {
            if (place < 0 || place + 1 >= length) {
                return 0;
            }
            return bytes[place] * 256 + bytes[place + 1];
        }
    }

    /** What all columns tell in one line, and which way the zigs go. */
    private static final class Line {
        final int[] values = new int[MOST_COLUMNS];
        int number;
        int ups;

        void copy(Line other) {
            number = other.number;
            ups = other.ups;
            System.arraycopy(other.values, 0, values, 0, MOST_COLUMNS);
        }

        boolean goesUp(int column) {
            return (ups >> column & 1) == 1;
        }

        void go(int column, boolean up) {
            ups = up ? ups | 1 << column : ups & ~(1 << column);
        }
    }

    /** How a column is told in the text. */
    private static final class Column {
        final int[] name = new int[NAME_LETTERS];
        int sort;
        int least;
        int greatest;
        int start;
        boolean up;
        /** A zig's difference, an arc's quick step. */
        int step;
        int slowStep;
        int quickPlaces;
        int codeFrom;
        int codeTo;

        void clear(int sort) {
            this.sort = sort;
            least = 0;
            greatest = 0;
            start = 0;
            up = false;
            step = 0;
            slowStep = 0;
            quickPlaces = 0;
            codeFrom = 0;
            codeTo = 0;
        }

        boolean moves() {
            return sort != SUM;
        }

        boolean canTell(int value) {
            return value >= least && value <= greatest;
        }

        int slipped(int value, int by) {
            int places = greatest - least + 1;
            return moves() && places > 0 ? least + Math.floorMod(value - least + by, places) : value;
        }

        int arcBehind(int value) {
            boolean quick = value < quickPlaces;
            int ownStep = quick ? step : slowStep;
            int otherStep = quick ? slowStep : step;
            int beyond = value + ownStep - (quick ? quickPlaces : greatest + 1);
            if (beyond < 0 || ownStep < 1) {
                return value + ownStep;
            }
            return (quick ? quickPlaces : 0) + beyond * otherStep / ownStep;
        }
    }

    /** What steps of Code ask about where they run. */
    private abstract static class Scene {
        abstract int told(int what);

        abstract int asked(int what, int by);
    }

    /** Sums and tests, each step behind the parts that it takes, so that a stack runs them without recursion. */
    private static final class Code {
        static final int NUMBER = 0;
        static final int TOLD = 1;
        static final int ASKED = 2;
        static final int NOT = 3;
        static final int PLUS = 4;
        static final int MINUS = 5;
        static final int TIMES = 6;
        static final int OVER = 7;
        static final int LEAST = 8;
        static final int MOST = 9;
        static final int BELOW = 10;
        static final int ABOVE = 11;
        static final int SAME = 12;
        static final int BOTH = 13;
        static final int EITHER = 14;
        private static final int KINDS = 16;
        /** Six brackets that are open at once leave some 25 waiting. */
        private static final int WAITING = 64;

        private final int[] steps = new int[Tape.MOST];
        private final int[] stack = new int[WAITING];
        int size;

        /** Each step comes of a byte of its own, so that a tape's worth of steps is enough. */
        void add(int kind, int with) {
            if (size < steps.length) {
                steps[size] = with * KINDS + kind;
                size++;
            }
        }

        int run(int from, int to, Scene scene) {
            int top = 0;
            for (int i = from; i < to && i < size; i++) {
                int kind = steps[i] % KINDS;
                int with = steps[i] / KINDS;
                if (kind <= TOLD) {
                    if (top >= WAITING) {
                        return 0;
                    }
                    stack[top] = kind == NUMBER ? with : scene.told(with);
                    top++;
                } else if (kind <= NOT) {
                    if (top < 1) {
                        return 0;
                    }
                    int one = stack[top - 1];
                    stack[top - 1] = kind == NOT ? 1 - one : scene.asked(with, one);
                } else {
                    if (top < 2) {
                        return 0;
                    }
                    top--;
                    stack[top - 1] = joined(kind, stack[top - 1], stack[top]);
                }
            }
            return top == 1 ? stack[0] : 0;
        }

        private static int joined(int kind, int one, int other) {
            switch (kind) {
                case PLUS: return (int) Math.max(-BOUND, Math.min(BOUND, (long) one + other));
                case MINUS: return (int) Math.max(-BOUND, Math.min(BOUND, (long) one - other));
                case TIMES: return (int) Math.max(-BOUND, Math.min(BOUND, (long) one * other));
                case OVER: return other == 0 ? 0 : Math.floorDiv(one, other);
                case LEAST: return Math.min(one, other);
                case MOST: return Math.max(one, other);
                case BELOW: return one < other ? 1 : 0;
                case ABOVE: return one > other ? 1 : 0;
                case SAME: return one == other ? 1 : 0;
                case BOTH: return one & other;
                case EITHER: return one | other;
                default: return 0;
            }
        }
    }

    /** What a text tells, and how a line of it comes behind another. */
    private static final class Tablet extends Scene {
        static final int TOLD_LINE = MOST_COLUMNS;
        static final int TOLD_PREVIOUS = MOST_COLUMNS + 1;

        final Column[] columns = new Column[MOST_COLUMNS];
        final Code code = new Code();
        int count;
        int statements;
        int slip;
        boolean hasMarks;
        int marksFrom;
        int marksTo;
        private Line shown = new Line();
        private int previous;

        Tablet() {
            for (int i = 0; i < MOST_COLUMNS; i++) {
                columns[i] = new Column();
            }
        }

        void clear() {
            count = 0;
            statements = 0;
            slip = 0;
            hasMarks = false;
            code.size = 0;
        }

        void begin(Line line) {
            line.number = 0;
            line.ups = 0;
            shown = line;
            previous = 0;
            for (int i = 0; i < count; i++) {
                Column column = columns[i];
                line.go(i, column.up);
                line.values[i] = column.moves() ? column.start
                        : code.run(column.codeFrom, column.codeTo, this);
            }
        }

        /** The zig of the number changed, if there is one, goes by that difference in place of its own. */
        void next(Line line, int changed, int difference) {
            line.number++;
            for (int i = 0; i < count; i++) {
                move(line, i, i == changed ? difference : columns[i].step);
            }
        }

        void move(Line line, int place, int step) {
            Column column = columns[place];
            int value = line.values[place];
            if (column.sort == ZIG) {
                moveZig(line, place, step);
                return;
            }
            if (column.sort == ARC) {
                line.values[place] = column.arcBehind(value);
                return;
            }
            shown = line;
            previous = value;
            int sum = code.run(column.codeFrom, column.codeTo, this);
            int places = column.greatest + 1;
            boolean ring = column.sort == RING && places > 0;
            line.values[place] = ring ? Math.floorMod(value + sum, places) : sum;
        }

        private void moveZig(Line line, int place, int step) {
            Column column = columns[place];
            int value = line.goesUp(place) ? line.values[place] + step : line.values[place] - step;
            if (value > column.greatest) {
                value = 2 * column.greatest - value;
                line.go(place, false);
            } else if (value < column.least) {
                value = 2 * column.least - value;
                line.go(place, true);
            }
            line.values[place] = value;
        }

        boolean isMarked(Line line) {
            shown = line;
            return hasMarks && code.run(marksFrom, marksTo, this) == 1;
        }

        int told(int what) {
            if (what == TOLD_LINE) {
                return shown.number;
            }
            if (what == TOLD_PREVIOUS) {
                return previous;
            }
            return what >= 0 && what < MOST_COLUMNS ? shown.values[what] : 0;
        }

        int asked(int what, int by) {
            return 0;
        }
    }

    /** Lines behind one another from a first one on, told as far as they have been reached. */
    private static final class Course {
        private final int[] values;
        private final int[] ups;
        private final Line latest = new Line();
        private Tablet tablet;
        private int reached;

        Course(int lines) {
            values = new int[lines * MOST_COLUMNS];
            ups = new int[lines];
        }

        void begin(Tablet tablet, Line first) {
            this.tablet = tablet;
            latest.copy(first);
            reached = 0;
            store();
        }

        void reach(int n) {
            if (tablet == null) {
                return;
            }
            for (int i = reached; i <= n && i < ups.length; i++) {
                tablet.next(latest, NONE, 0);
                store();
            }
        }

        private void store() {
            ups[reached] = latest.ups;
            System.arraycopy(latest.values, 0, values, reached * MOST_COLUMNS, MOST_COLUMNS);
            reached++;
        }

        int told(int n, int column) {
            if (n < 0 || n >= reached || column < 0 || column >= MOST_COLUMNS) {
                return 0;
            }
            return values[n * MOST_COLUMNS + column];
        }

        boolean goesUp(int n, int column) {
            return n >= 0 && n < reached && (ups[n] >> column & 1) == 1;
        }

        void show(int n, int number, Line line) {
            line.number = number;
            for (int i = 0; i < MOST_COLUMNS; i++) {
                line.values[i] = told(n, i);
            }
        }
    }

    /** The marked lines that are kept, and the lines to which acts can be undone. */
    private static final class History {
        private static final int MOST_TOLD = 40;
        private static final int MOST_ACTS = 20;
        private final int[] keptLines = new int[LAST_LINE + 1];
        private final int[] keptUntrue = new int[LAST_LINE + 1];
        private final Line[] past = new Line[MOST_ACTS];
        private final int[] pastKept = new int[MOST_ACTS];
        private int keptCount;
        private int newest;
        int acts;

        History() {
            for (int i = 0; i < MOST_ACTS; i++) {
                past[i] = new Line();
            }
        }

        void forget() {
            keptCount = 0;
            acts = 0;
        }

        /** More than are told stay, for an act undone brings those back that it pushed out. */
        void keep(int line, int untrue) {
            if (keptCount < keptLines.length) {
                keptLines[keptCount] = line;
                keptUntrue[keptCount] = untrue;
                keptCount++;
            }
        }

        int keptTold() {
            return Math.min(MOST_TOLD, keptCount);
        }

        int keptLine(int k) {
            return keptLines[keptCount - keptTold() + k];
        }

        int keptUntrue(int k) {
            return keptUntrue[keptCount - keptTold() + k];
        }

        void remember(Line line) {
            newest = (newest + 1) % MOST_ACTS;
            past[newest].copy(line);
            pastKept[newest] = keptCount;
            acts = Math.min(MOST_ACTS, acts + 1);
        }

        boolean goBack(Line line) {
            if (acts == 0) {
                return false;
            }
            line.copy(past[newest]);
            keptCount = pastKept[newest];
            newest = (newest + MOST_ACTS - 1) % MOST_ACTS;
            acts--;
            return true;
        }
    }

    /** What is found of a broken tablet, and where it belongs. */
    private static final class Piece {
        private static final int MOST_ROWS = 12;
        private static final int ROW_BYTES = 4;
        private static final int MOST_DOWN = 30;
        private static final int LINES = 400;
        static final int LAST_REACHED = LINES - 1 + MOST_DOWN;
        private static final int VALUES = 1000;

        private final Course truth;
        private final Line trial = new Line();
        private final int[] downs = new int[MOST_ROWS];
        private final int[] columns = new int[MOST_ROWS];
        private final int[] values = new int[MOST_ROWS];
        private final int[] alike = new int[VALUES];
        final int[] fitting = new int[LINES];
        final int[] differences = new int[VALUES];
        int rows;
        int fits;
        int differing;
        int tellingDown;
        int tellingColumn;
        int tellingLeft;
        private boolean fitsListed;
        private boolean weighed;
        private int listedColumn;

        Piece(Course truth) {
            this.truth = truth;
        }

        void forget() {
            rows = 0;
            changed();
        }

        private void changed() {
            fitsListed = false;
            weighed = false;
            listedColumn = NONE;
        }

        boolean read(Tape tape, Tablet tablet) {
            int told = tape.length / ROW_BYTES;
            if (told < 1 || told > MOST_ROWS || tape.length % ROW_BYTES != 0) {
                return false;
            }
            for (int i = 0; i < told; i++) {
                if (!isRow(tape, i * ROW_BYTES, tablet)) {
                    return false;
                }
            }
            for (int i = 0; i < told; i++) {
                downs[i] = tape.bytes[i * ROW_BYTES];
                columns[i] = tape.bytes[i * ROW_BYTES + 1];
                values[i] = tape.pair(i * ROW_BYTES + 2);
            }
            rows = told;
            changed();
            return true;
        }

        private static boolean isRow(Tape tape, int at, Tablet tablet) {
            int column = tape.bytes[at + 1];
            return tape.bytes[at] <= MOST_DOWN && column < tablet.count
                    && tablet.columns[column].moves()
                    && tablet.columns[column].canTell(tape.pair(at + 2));
        }

        /** What is true must have been reached as far as LAST_REACHED. */
        void listFits() {
            if (fitsListed) {
                return;
            }
            fits = 0;
            for (int line = 0; line < LINES; line++) {
                if (fitsAt(line)) {
                    fitting[fits] = line;
                    fits++;
                }
            }
            fitsListed = true;
        }

        private boolean fitsAt(int line) {
            for (int i = 0; i < rows; i++) {
                if (truth.told(line + downs[i], columns[i]) != values[i]) {
                    return false;
                }
            }
            return true;
        }

        void listDifferences(Tablet tablet, int zig) {
            if (listedColumn == zig) {
                return;
            }
            int deepest = NONE;
            for (int i = 0; i < rows; i++) {
                deepest = Math.max(deepest, downs[i]);
            }
            int most = tablet.columns[zig].greatest - tablet.columns[zig].least;
            differing = 0;
            for (int difference = 1; difference <= most && difference < VALUES; difference++) {
                if (wouldFit(tablet, zig, difference, deepest)) {
                    differences[differing] = difference;
                    differing++;
                }
            }
            listedColumn = zig;
        }

        private boolean wouldFit(Tablet tablet, int zig, int difference, int deepest) {
            tablet.begin(trial);
            for (int down = 0; down <= deepest; down++) {
                for (int i = 0; i < rows; i++) {
                    if (downs[i] == down && trial.values[columns[i]] != values[i]) {
                        return false;
                    }
                }
                tablet.next(trial, zig, difference);
            }
            return true;
        }

        /** The fits must have been listed. */
        void weigh(Tablet tablet) {
            if (weighed) {
                return;
            }
            tellingLeft = 0;
            for (int down = 0; down <= MOST_DOWN; down++) {
                for (int i = 0; i < tablet.count; i++) {
                    int left = tablet.columns[i].moves() ? mostAlike(down, i) : 0;
                    if (left > 0 && (tellingLeft == 0 || left < tellingLeft)) {
                        tellingDown = down;
                        tellingColumn = i;
                        tellingLeft = left;
                    }
                }
            }
            weighed = true;
        }

        private int mostAlike(int down, int column) {
            int most = 0;
            for (int i = 0; i < fits; i++) {
                int value = truth.told(fitting[i] + down, column);
                if (value >= 0 && value < VALUES) {
                    alike[value]++;
                    most = Math.max(most, alike[value]);
                }
            }
            for (int i = 0; i < fits; i++) {
                int value = truth.told(fitting[i] + down, column);
                if (value >= 0 && value < VALUES) {
                    alike[value] = 0;
                }
            }
            return most;
        }
    }

    /** What all columns answer to one question. */
    private static final class Question extends Scene {
        static final int FIRST = 0;
        static final int LAST = 1;
        static final int OFTEN = 2;
        static final int TOTAL = 3;
        static final int MOST = 4;
        static final int LEAST = 5;

        static final int TOLD_NUMBER = 0;
        static final int TOLD_SORT = 1;
        static final int TOLD_VALUE = 2;
        static final int TOLD_DRIFT = 3;
        static final int TOLD_LINE = 4;
        static final int ASKED_AHEAD = 0;
        static final int ASKED_COLUMN = 1;

        private final Line now;
        private final Course truth;
        private final Course ahead;
        private Tablet tablet;
        private int column;

        Question(Line now, Course truth, Course ahead) {
            this.now = now;
            this.truth = truth;
            this.ahead = ahead;
        }

        /** What is ahead must have been reached as far as it may be asked. */
        long answer(Tablet tablet, int sort, Code code) {
            this.tablet = tablet;
            long answer = sort <= LAST ? NONE : 0;
            for (int i = 0; i < tablet.count; i++) {
                column = i;
                answer = joined(sort, answer, code.run(0, code.size, this));
            }
            return answer;
        }

        private long joined(int sort, long answer, int got) {
            switch (sort) {
                case FIRST: return answer == NONE && got == 1 ? column : answer;
                case LAST: return got == 1 ? column : answer;
                case MOST: return column == 0 ? got : Math.max(answer, got);
                case LEAST: return column == 0 ? got : Math.min(answer, got);
                default: return answer + got;
            }
        }

        int told(int what) {
            if (tablet == null || column < 0 || column >= tablet.count) {
                return 0;
            }
            switch (what) {
                case TOLD_NUMBER: return column;
                case TOLD_SORT: return tablet.columns[column].sort;
                case TOLD_VALUE: return now.values[column];
                case TOLD_DRIFT:
                    int drift = now.values[column] - truth.told(now.number, column);
                    return Math.max(-BOUND, Math.min(BOUND, drift));
                case TOLD_LINE: return now.number;
                default: return 0;
            }
        }

        int asked(int what, int by) {
            if (what == ASKED_AHEAD) {
                boolean can = by >= 0 && by <= MOST_AHEAD && by <= LAST_LINE - now.number;
                return can ? ahead.told(by, column) : 0;
            }
            return tablet != null && by >= 0 && by < tablet.count ? now.values[by] : 0;
        }
    }

    /** Reads the tape's text, word by word, up to its first fault. */
    private static final class Reader {
        private static final String OWN_WORDS =
                "zig arc ring sum from to by at up down of fast slow is marks slip line prev number sort value drift ahead col or and not all min max ";
        private static final int MOST_STATEMENTS = 60;
        private static final int MOST_OPEN = 6;
        private static final int DIGITS = 4;
        private static final int MOST_NUMBER = 9999;
        private static final int MOST_PLACES = 999;

        private static final int UNFIT = 1;
        private static final int BAD_NUMBER = 2;
        private static final int NAME_TWICE = 3;
        private static final int TOO_DEEP = 4;
        private static final int TOO_MANY = 5;

        private static final int TEXT_END = 0;
        private static final int WORD = 1;
        private static final int NUMBER = 2;
        private static final int SIGN = 3;
        /** A word or number right behind another one, where nothing fits. */
        private static final int GLUED = 4;

        private final Tape tape;
        final Code questionCode = new Code();
        int questionSort;
        int fault;
        int faultPlace = NONE;
        private Tablet tablet;
        private Code code = questionCode;
        private boolean asking;
        private boolean previousKnown;
        private int kind;
        private int from;
        private int to;

        Reader(Tape tape) {
            this.tape = tape;
        }

        boolean readTablet(Tablet target) {
            target.clear();
            tablet = target;
            code = target.code;
            asking = false;
            start();
            for (int i = 0; i <= MOST_STATEMENTS && kind != TEXT_END; i++) {
                if (i == MOST_STATEMENTS) {
                    return refuse(TOO_MANY, from);
                }
                if (!statement() || !takeSign(';')) {
                    return false;
                }
                target.statements++;
            }
            return true;
        }

        boolean readQuestion() {
            code = questionCode;
            code.size = 0;
            asking = true;
            start();
            questionSort = questionHere();
            if (questionSort == NONE) {
                return unfit();
            }
            boolean read = questionSort <= Question.OFTEN ? test(0) : sum(0);
            return read && (kind == TEXT_END || unfit());
        }

        private void start() {
            fault = 0;
            faultPlace = NONE;
            to = 0;
            previousKnown = false;
            advance();
        }

        private int questionHere() {
            if (tryWord("first")) {
                return Question.FIRST;
            }
            if (tryWord("last")) {
                return Question.LAST;
            }
            if (tryWord("often")) {
                return Question.OFTEN;
            }
            if (tryWord("total")) {
                return Question.TOTAL;
            }
            if (tryWord("most")) {
                return Question.MOST;
            }
            return tryWord("least") ? Question.LEAST : NONE;
        }

        // ---- statements

        private boolean statement() {
            int first = from;
            if (tryWord("slip")) {
                tablet.slip = number(0, CHANCES);
                return fault == 0;
            }
            if (tryWord("marks")) {
                if (tablet.hasMarks) {
                    return refuse(TOO_MANY, first);
                }
                tablet.hasMarks = true;
                tablet.marksFrom = code.size;
                boolean read = test(0);
                tablet.marksTo = code.size;
                return read;
            }
            int sort = sortHere();
            if (sort == NONE) {
                return unfit();
            }
            if (tablet.count >= MOST_COLUMNS) {
                return refuse(TOO_MANY, first);
            }
            Column column = tablet.columns[tablet.count];
            column.clear(sort);
            if (!name(column)) {
                return false;
            }
            switch (sort) {
                case ZIG: zig(column); break;
                case ARC: arc(column); break;
                case RING: ring(column); break;
                default: takeWord("is"); break;
            }
            if (fault != 0 || sort >= RING && !sumOf(column)) {
                return false;
            }
            // Only here: in its own sum a column's name is not yet told.
            tablet.count++;
            return true;
        }

        private int sortHere() {
            if (tryWord("zig")) {
                return ZIG;
            }
            if (tryWord("arc")) {
                return ARC;
            }
            if (tryWord("ring")) {
                return RING;
            }
            return tryWord("sum") ? SUM : NONE;
        }

        private void zig(Column column) {
            column.least = numberBehind("from", 0, MOST_PLACES);
            column.greatest = numberBehind("to", column.least + 1, MOST_PLACES);
            column.step = numberBehind("by", 1, column.greatest - column.least);
            column.start = numberBehind("at", column.least, column.greatest);
            if (fault == 0) {
                column.up = tryWord("up");
                if (!column.up) {
                    takeWord("down");
                }
            }
        }

        private void arc(Column column) {
            int places = numberBehind("of", 4, MOST_PLACES);
            column.greatest = places - 1;
            column.start = numberBehind("at", 0, places - 1);
            column.quickPlaces = numberBehind("to", 2, places - 2);
            column.step = numberBehind("fast", 1, column.quickPlaces);
            column.slowStep = numberBehind("slow", 1, places - column.quickPlaces);
        }

        private void ring(Column column) {
            column.greatest = numberBehind("of", 2, MOST_PLACES) - 1;
            column.start = numberBehind("at", 0, column.greatest);
            if (fault == 0) {
                takeWord("by");
            }
        }

        private boolean sumOf(Column column) {
            column.codeFrom = code.size;
            previousKnown = true;
            boolean read = sum(0);
            previousKnown = false;
            column.codeTo = code.size;
            return read;
        }

        private boolean name(Column column) {
            if (kind != WORD || isOwnWord()) {
                return unfit();
            }
            if (to - from > NAME_LETTERS) {
                return refuse(UNFIT, from + NAME_LETTERS);
            }
            if (columnHere() != NONE) {
                return refuse(NAME_TWICE, from);
            }
            for (int i = 0; i < NAME_LETTERS; i++) {
                column.name[i] = from + i < to ? tape.bytes[from + i] - 'a' + 1 : 0;
            }
            advance();
            return true;
        }

        // ---- tests and sums; open says how many of ( [ not ahead col are open

        private boolean test(int open) {
            if (!both(open)) {
                return false;
            }
            for (int i = 0; i < Tape.MOST && tryWord("or"); i++) {
                if (!both(open)) {
                    return false;
                }
                code.add(Code.EITHER, 0);
            }
            return true;
        }

        private boolean both(int open) {
            if (!fact(open)) {
                return false;
            }
            for (int i = 0; i < Tape.MOST && tryWord("and"); i++) {
                if (!fact(open)) {
                    return false;
                }
                code.add(Code.BOTH, 0);
            }
            return true;
        }

        private boolean fact(int open) {
            int first = from;
            if (tryWord("not")) {
                if (open >= MOST_OPEN) {
                    return refuse(TOO_DEEP, first);
                }
                boolean read = fact(open + 1);
                code.add(Code.NOT, 0);
                return read;
            }
            if (isSign('[')) {
                return takeOpen('[', open) && test(open + 1) && takeSign(']');
            }
            if (tryWord("all")) {
                code.add(Code.NUMBER, 1);
                return true;
            }
            if (!sum(open)) {
                return false;
            }
            int step = comparisonHere();
            if (step == NONE) {
                return unfit();
            }
            advance();
            boolean read = sum(open);
            code.add(step, 0);
            return read;
        }

        private int comparisonHere() {
            if (isSign('<')) {
                return Code.BELOW;
            }
            if (isSign('>')) {
                return Code.ABOVE;
            }
            return isSign('=') ? Code.SAME : NONE;
        }

        private boolean sum(int open) {
            if (!product(open)) {
                return false;
            }
            for (int i = 0; i < Tape.MOST && (isSign('+') || isSign('-')); i++) {
                int step = isSign('+') ? Code.PLUS : Code.MINUS;
                advance();
                if (!product(open)) {
                    return false;
                }
                code.add(step, 0);
            }
            return true;
        }

        private boolean product(int open) {
            if (!part(open)) {
                return false;
            }
            for (int i = 0; i < Tape.MOST && (isSign('*') || isSign('/')); i++) {
                int step = isSign('*') ? Code.TIMES : Code.OVER;
                advance();
                if (!part(open)) {
                    return false;
                }
                code.add(step, 0);
            }
            return true;
        }

        private boolean part(int open) {
            if (kind == NUMBER) {
                code.add(Code.NUMBER, number(0, MOST_NUMBER));
                return fault == 0;
            }
            if (isSign('(')) {
                return takeOpen('(', open) && sum(open + 1) && takeSign(')');
            }
            if (tryWord("min")) {
                return pair(open, Code.LEAST);
            }
            if (tryWord("max")) {
                return pair(open, Code.MOST);
            }
            if (asking && (isWord("ahead") || isWord("col"))) {
                return askedPart(open);
            }
            int told = asking ? toldOfColumn() : toldOfLine();
            if (told == NONE) {
                return unfit();
            }
            code.add(Code.TOLD, told);
            advance();
            return true;
        }

        private boolean pair(int open, int step) {
            boolean read = takeOpen('(', open) && sum(open + 1) && takeSign(',')
                    && sum(open + 1) && takeSign(')');
            code.add(step, 0);
            return read;
        }

        private boolean askedPart(int open) {
            if (open >= MOST_OPEN) {
                return refuse(TOO_DEEP, from);
            }
            int asked = isWord("ahead") ? Question.ASKED_AHEAD : Question.ASKED_COLUMN;
            advance();
            boolean read = part(open + 1);
            code.add(Code.ASKED, asked);
            return read;
        }

        private int toldOfColumn() {
            if (isWord("number")) {
                return Question.TOLD_NUMBER;
            }
            if (isWord("sort")) {
                return Question.TOLD_SORT;
            }
            if (isWord("value")) {
                return Question.TOLD_VALUE;
            }
            if (isWord("drift")) {
                return Question.TOLD_DRIFT;
            }
            return isWord("line") ? Question.TOLD_LINE : NONE;
        }

        private int toldOfLine() {
            if (isWord("line")) {
                return Tablet.TOLD_LINE;
            }
            if (previousKnown && isWord("prev")) {
                return Tablet.TOLD_PREVIOUS;
            }
            return columnHere();
        }

        // ---- words, numbers and signs

        private boolean takeOpen(char sign, int open) {
            if (!isSign(sign)) {
                return unfit();
            }
            if (open >= MOST_OPEN) {
                return refuse(TOO_DEEP, from);
            }
            advance();
            return true;
        }

        private boolean takeSign(char sign) {
            if (!isSign(sign)) {
                return unfit();
            }
            advance();
            return true;
        }

        private boolean takeWord(String word) {
            if (!isWord(word)) {
                return unfit();
            }
            advance();
            return true;
        }

        private boolean tryWord(String word) {
            if (!isWord(word)) {
                return false;
            }
            advance();
            return true;
        }

        private int numberBehind(String word, int least, int greatest) {
            if (fault != 0 || !takeWord(word)) {
                return NONE;
            }
            return number(least, greatest);
        }

        private int number(int least, int greatest) {
            if (kind != NUMBER) {
                unfit();
                return NONE;
            }
            if (to - from > DIGITS) {
                refuse(UNFIT, from + DIGITS);
                return NONE;
            }
            int value = 0;
            for (int i = from; i < to; i++) {
                value = value * 10 + tape.bytes[i] - '0';
            }
            if (value < least || value > greatest) {
                refuse(BAD_NUMBER, from);
                return NONE;
            }
            advance();
            return value;
        }

        private boolean isSign(char sign) {
            return kind == SIGN && tape.bytes[from] == sign;
        }

        private boolean isWord(String word) {
            if (kind != WORD || word.length() != to - from) {
                return false;
            }
            for (int i = 0; i < word.length(); i++) {
                if (tape.bytes[from + i] != word.charAt(i)) {
                    return false;
                }
            }
            return true;
        }

        private boolean isOwnWord() {
            int at = from;
            for (int i = 0; i < OWN_WORDS.length(); i++) {
                char own = OWN_WORDS.charAt(i);
                if (own == ' ') {
                    if (at == to) {
                        return true;
                    }
                    at = from;
                } else if (at >= from) {
                    // Below from: this own word has already turned out to be another.
                    at = at < to && tape.bytes[at] == own ? at + 1 : NONE;
                }
            }
            return false;
        }

        private int columnHere() {
            for (int i = 0; kind == WORD && i < tablet.count; i++) {
                int[] name = tablet.columns[i].name;
                boolean same = to - from <= NAME_LETTERS;
                for (int k = 0; same && k < NAME_LETTERS; k++) {
                    same = name[k] == (from + k < to ? tape.bytes[from + k] - 'a' + 1 : 0);
                }
                if (same) {
                    return i;
                }
            }
            return NONE;
        }

        /** Only the first fault along the text counts. */
        private boolean refuse(int kind, int place) {
            if (fault == 0) {
                fault = kind;
                faultPlace = place;
            }
            return false;
        }

        private boolean unfit() {
            return refuse(UNFIT, from);
        }

        private void advance() {
            from = to;
            while (from < tape.length && isBlank(tape.bytes[from])) {
                from++;
            }
            kind = from < tape.length ? kindOf(tape.bytes[from]) : TEXT_END;
            boolean glued = from == to && from > 0 && (kind == WORD || kind == NUMBER)
                    && kindOf(tape.bytes[from - 1]) != SIGN;
            to = kind == TEXT_END ? from : from + 1;
            while (kind != SIGN && to < tape.length && kindOf(tape.bytes[to]) == kind) {
                to++;
            }
            kind = glued ? GLUED : kind;
        }

        private static boolean isBlank(int one) {
            return one == 10 || one == 32;
        }

        private static int kindOf(int one) {
            if (one >= 'a' && one <= 'z') {
                return WORD;
            }
            return one >= '0' && one <= '9' ? NUMBER : SIGN;
        }
    }
}
