/** One object under test, with texts and bytes laid on its tape, and a count of the answers that were not due. */
final class Desk {
    static int wrong;
    static String about = "";
    final ZigzagTablets x = new ZigzagTablets();

    static void due(String what, long got, long want) {
        if (got != want) {
            wrong++;
            System.out.println(about + ": " + what + " answered " + got + ", due is " + want);
        }
    }

    static void due(String what, boolean got, boolean want) {
        due(what, got ? 1 : 0, want ? 1 : 0);
    }

    static void finish() {
        if (wrong > 0) {
            System.out.println(wrong + " answers are not as due");
            System.exit(1);
        }
    }

    static Desk with(String tablet) {
        Desk desk = new Desk();
        due("tablet() of " + tablet, desk.tell(tablet) >= 0, true);
        return desk;
    }

    void lay(int... bytes) {
        for (int i = 0; i < bytes.length || i == 0; i += 20) {
            int[] n = new int[5];
            for (int k = 0; k < 20; k++) {
                n[k / 4] = n[k / 4] << 8 | (i + k < bytes.length ? bytes[i + k] : 0);
            }
            x.feed(n[0], n[1], n[2], n[3], n[4]);
        }
        x.end(bytes.length);
    }

    void lay(String text) {
        lay(text.chars().toArray());
    }

    int tell(String text) {
        lay(text);
        return x.tablet();
    }

    long ask(String text) {
        lay(text);
        return x.ask();
    }

    int find(int... rows) {
        lay(rows);
        return x.find();
    }

    boolean on(int... bytes) {
        lay(bytes);
        return x.on();
    }

    /** The same as on, with the sealing byte put behind. */
    boolean onSealed(int... bytes) {
        int[] all = java.util.Arrays.copyOf(bytes, bytes.length + 1);
        int seal = 181;
        for (int b : bytes) {
            seal = (3 * seal + b) % 251;
        }
        all[bytes.length] = seal;
        return on(all);
    }

    /** A tablet of this text has this fault at this place, and is refused. */
    static void tabletFault(String text, int kind, int place) {
        Desk desk = with("slip 7;");
        due("tablet() of " + text, desk.tell(text), -1);
        desk.faultDue(text, kind, place);
        due("status(1) behind " + text, desk.x.status(1), 1);
    }

    static void questionFault(String text, int kind, int place) {
        Desk desk = with("ring r of 9 at 4 by 1;");
        due("ask() of " + text, desk.ask(text), ZigzagTablets.NOTHING);
        desk.faultDue(text, kind, place);
    }

    /** The same, with a ^ ahead of the byte (or of the text's end) where the fault is. */
    static void faultAt(int kind, String marked) {
        tabletFault(marked.replace("^", ""), kind, marked.indexOf('^'));
    }

    static void questionFaultAt(int kind, String marked) {
        questionFault(marked.replace("^", ""), kind, marked.indexOf('^'));
    }

    void faultDue(String text, int kind, int place) {
        due("fault(0) of " + text, x.fault(0), kind);
        due("fault(1) of " + text, x.fault(1), place);
    }

    static void statementsDue(String text, int statements) {
        Desk desk = new Desk();
        due("tablet() of " + text, desk.tell(text), statements);
        desk.faultDue(text, 0, -1);
    }

    /** All of has(0), has(1) and on. */
    void hasDue(int... values) {
        for (int what = 0; what < values.length; what++) {
            due("has(" + what + ")", x.has(what), values[what]);
        }
    }

    /** What all columns tell now. */
    void valuesDue(long... values) {
        for (int c = 0; c < values.length; c++) {
            due("value(" + c + ", 0)", x.value(c, 0), values[c]);
        }
    }

    void statusDue(int what, int refused) {
        due("status(" + what + ")", x.status(what), refused);
    }

    /** What a column tells from now on, line by line. */
    void laterDue(int column, long... values) {
        for (int n = 0; n < values.length; n++) {
            due("later(" + column + ", " + n + ")", x.later(column, n), values[n]);
        }
    }

    void numbersDue(String what, java.util.function.IntUnaryOperator got, int... values) {
        due("how many of " + what, got.applyAsInt(-1), values.length);
        for (int k = 0; k < values.length; k++) {
            due(what + " " + k, got.applyAsInt(k), values[k]);
        }
        due(what + " behind the last", got.applyAsInt(values.length), -1);
        due(what + " -2", got.applyAsInt(-2), -1);
    }
}
