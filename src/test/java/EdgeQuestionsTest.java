import java.util.Arrays;

/** The edges that part IV and promises 29 to 32 name, from both sides. A ^ stands where the fault is. */
public final class EdgeQuestionsTest {
    private static final long NO = ZigzagTablets.NOTHING;
    private static final String FOUR = "zig z from 3 to 9 by 3 at 6 up;arc a of 300 at 8 to 4 fast 2 slow 5;"
            + "ring r of 7 at 6 by 5;sum s is prev-z;";
    private static final String EIGHT = "zig a from 0 to 9 by 1 at 1 up;arc b of 9 at 2 to 4 fast 1 slow 1;"
            + "ring c of 9 at 3 by 1;sum d is 4;sum e is 5;sum f is 6;sum g is 7;sum h is 8;";

    public static void main(String[] args) {
        holdsForNone();
        totalNotHeld();
        mostAndLeast();
        partsOfQuestions();
        drift();
        aheadParts();
        colParts();
        faultsOfQuestions();
        wholeQuestion();
        openInQuestions();
        untilItsPartEnds();
        tapeAndState();
        imageBytes();
        latestImage();
        onOfAnImage();
        onAtTheEdges();
        onRefused();
        onOfAnotherTablet();
        Desk.finish();
    }

    private static void askDue(Desk d, String text, long want) {
        Desk.due("ask() of " + text, d.ask(text), want);
        d.faultDue(text, 0, -1);
    }

    private static void holdsForNone() {
        Desk.about = "promise 29: NONE of first, last, when its TEST holds for none";
        Desk d = Desk.with(EIGHT);
        askDue(d, "first all", 0);
        askDue(d, "last all", 7);
        askDue(d, "often all", 8);
        askDue(d, "first not all", -1);
        askDue(d, "last not all", -1);
        askDue(d, "often not all", 0);
        askDue(d, "first value>7", 7);
        askDue(d, "last value>7", 7);
        askDue(d, "first value<2", 0);
        askDue(d, "last value<2", 0);
        askDue(d, "first value>8", -1);
        askDue(d, "last value<1", -1);
        askDue(d, "often value>1 and value<8", 6);
        Desk bare = new Desk();
        askDue(bare, "first all", -1);
        askDue(bare, "last all", -1);
        askDue(bare, "often all", 0);
    }

    private static void totalNotHeld() {
        Desk.about = "total SUM (of all together, not held)";
        Desk d = Desk.with(EIGHT);
        askDue(d, "total value", 36);
        askDue(d, "total 9999*9999", 8000000);
        askDue(d, "total 0-9999*9999", -8000000);
        askDue(d, "total 9999*9999+1-1", 7999992);
        askDue(d, "total (number-4)*9999*9999", -1000000);
        askDue(new Desk(), "total 5", 0);
    }

    private static void mostAndLeast() {
        Desk.about = "most SUM, least SUM (the greatest, the least of all; 0 without COLUMNS)";
        Desk d = Desk.with(EIGHT);
        askDue(d, "most value", 8);
        askDue(d, "least value", 1);
        askDue(d, "most 0-value", -1);
        askDue(d, "least 0-value", -8);
        askDue(d, "most 0-7", -7);
        askDue(d, "least 7", 7);
        askDue(d, "most 9999*9999+1", 1000000);
        askDue(d, "least 0-9999*9999-1", -1000000);
        askDue(new Desk(), "most 5", 0);
        askDue(new Desk(), "most 0-5", 0);
        askDue(new Desk(), "least 5", 0);
        askDue(new Desk(), "least 0-5", 0);
        askDue(Desk.with("sum s is 0-3;"), "most value", -3);
        askDue(Desk.with("sum s is 3;"), "least value", 3);
    }

    private static void partsOfQuestions() {
        Desk.about = "PART: number; sort (0 a ZIG, 1 an ARC, 2 a RING, 3 a SUM); value; line";
        Desk d = Desk.with(EIGHT);
        int[] sorts = {0, 1, 2, 3, 3, 3, 3, 3};
        for (int c = 0; c < 8; c++) {
            askDue(d, "total (1-min(1,max(number-" + c + "," + c + "-number)))*(sort+1)", sorts[c] + 1);
            askDue(d, "first number=" + c, c);
            askDue(d, "first value=" + (c + 1), c);
        }
        askDue(d, "first number=8", -1);
        askDue(d, "most line", 0);
        d.x.write(100);
        askDue(d, "most line", 100);
        askDue(d, "total 9999", 8 * 9999);
        askDue(d, "total 0000", 0);
        askDue(d, "most 7/0", 0);
        askDue(d, "most (0-7)/2", -4);
    }

    private static void drift() {
        Desk.about = "drift: how much more that is than what is TRUE (10 to the 6 if it is above, likewise below)";
        Desk d = Desk.with("ring r of 9 at 4 by 1;sum s is 9999*9999;sum t is 0-9999*9999;");
        askDue(d, "most drift", 0);
        askDue(d, "least drift", 0);
        d.x.put(0, 8);
        askDue(d, "total drift", 4);
        d.x.put(0, 0);
        askDue(d, "total drift", -4);
        d.onSealed(0, 0, 15, 66, 68, 0, 15, 66, 64, 0, 15, 66, 64, 0); // 4, 0, 0
        askDue(d, "least drift", -1000000);
        askDue(d, "most drift", 1000000);
        d.onSealed(0, 0, 15, 66, 68, 0, 15, 66, 63, 0, 15, 66, 65, 0); // 4, -1, 1
        askDue(d, "least drift", -1000000);
        askDue(d, "least drift+1", -999999);
        askDue(d, "most drift", 1000000);
        askDue(d, "most drift-1", 999999);
        d.onSealed(0, 0, 15, 66, 68, 0, 15, 66, 65, 0, 15, 66, 63, 0); // 4, 1, -1
        askDue(d, "least drift", -999999);
        askDue(d, "most drift", 999999);
        d.onSealed(0, 0, 15, 66, 68, 0, 0, 0, 0, 0, 30, 132, 128, 0); // 4, -1000000, 1000000
        askDue(d, "least drift", -1000000);
        askDue(d, "most drift", 1000000);
    }

    private static void aheadParts() {
        Desk.about = "ahead PART: what it tells so many LINES AHEAD, 0 if that can't be";
        Desk d = Desk.with("sum s is line+5;");
        askDue(d, "most ahead 0", 5);
        askDue(d, "most ahead 1", 6);
        askDue(d, "most ahead 200", 205);
        askDue(d, "most ahead 201", 0);
        askDue(d, "most ahead 9999", 0);
        askDue(d, "most ahead(0-1)", 0);
        askDue(d, "most ahead(9999*9999)", 0);
        askDue(d, "most ahead(0-9999*9999)", 0);
        d.onSealed(3, 31, 15, 66, 69, 0); // LINE 799
        askDue(d, "most ahead 200", 1004);
        d.x.write(1);
        askDue(d, "most ahead 200", 0);
        askDue(d, "most ahead 199", 1004);
        d.onSealed(3, 231, 15, 66, 69, 0); // LINE 999
        askDue(d, "most ahead 0", 5);
        askDue(d, "most ahead 1", 0);
        Desk slips = Desk.with("ring r of 9 at 4 by 1;slip 100;");
        askDue(slips, "most ahead 1", 5);
        slips.x.put(0, 7);
        askDue(slips, "most ahead 1", 8);
        askDue(slips, "most ahead 2", 0);
    }

    private static void colParts() {
        Desk.about = "col PART: what the COLUMN of that number tells, 0 without one";
        Desk d = Desk.with(EIGHT);
        for (int c = 0; c < 8; c++) {
            askDue(d, "most col " + c, c + 1);
        }
        askDue(d, "most col 8", 0);
        askDue(d, "most col 9999", 0);
        askDue(d, "most col(0-1)", 0);
        askDue(d, "most col(9999*9999)", 0);
        askDue(d, "most col(0-9999*9999)", 0);
        askDue(d, "total col number", 36);
        askDue(d, "total col(number+1)", 35);
        Desk one = Desk.with("sum s is 7;");
        askDue(one, "most col 0", 7);
        askDue(one, "most col 1", 0);
        Desk after = Desk.with(EIGHT);
        after.tell("sum s is 7;");
        askDue(after, "most col 1", 0);
        askDue(new Desk(), "total col 0", 0);
        Desk.about = "ahead, col take a PART, no more";
        askDue(d, "most col 1*2", 4);
        askDue(d, "most col 1+1", 3);
        askDue(d, "most col(1+1)", 3);
        askDue(d, "most col min(1,2)+1", 3);
        askDue(d, "most col col 1", 3);
        askDue(d, "first ahead 1=2", 0);
        askDue(d, "first col 1+1=3 and all", 0);
    }

    private static void faultsOfQuestions() {
        Desk.about = "its FAULTS: 1 as in I (an unknown word at its first byte; what stands behind it, too)";
        Desk.questionFaultAt(1, "^");
        Desk.questionFaultAt(1, " \n^");
        Desk.questionFaultAt(1, "^5");
        Desk.questionFaultAt(1, "^;");
        Desk.questionFaultAt(1, "^value");
        Desk.questionFaultAt(1, "^firs all");
        Desk.questionFaultAt(1, "^firstly all");
        Desk.questionFaultAt(1, "^First all");
        Desk.questionFaultAt(1, "first^");
        Desk.questionFaultAt(1, "first ^;");
        Desk.questionFaultAt(1, "first all^;");
        Desk.questionFaultAt(1, "first all ^all");
        Desk.questionFaultAt(1, "first all ^first all");
        Desk.questionFaultAt(1, "first all^]");
        Desk.questionFaultAt(1, "first all and^");
        Desk.questionFaultAt(1, "often value^");
        Desk.questionFaultAt(1, "often value^;");
        Desk.questionFaultAt(1, "often value=1^=1");
        Desk.questionFaultAt(1, "often [value=1^");
        Desk.questionFaultAt(1, "total^");
        Desk.questionFaultAt(1, "total ^all");
        Desk.questionFaultAt(1, "total ^not all");
        Desk.questionFaultAt(1, "total 5^;");
        Desk.questionFaultAt(1, "total 5 ^5");
        Desk.questionFaultAt(1, "total 5^value");
        Desk.questionFaultAt(1, "total value^5");
        Desk.questionFaultAt(1, "total 5^=5");
        Desk.questionFaultAt(1, "total 5^)");
        Desk.questionFaultAt(1, "total (5^");
        Desk.questionFaultAt(1, "total min(5^)");
        Desk.questionFaultAt(1, "total 1234^5");
        Desk.questionFaultAt(1, "total 0000^0");
        Desk.questionFaultAt(1, "total ahead 1234^5");
        Desk.questionFaultAt(1, "total ^r");
        Desk.questionFaultAt(1, "total ^prev");
        Desk.questionFaultAt(1, "total ^abcdefghijklm");
        Desk.questionFaultAt(1, "total ^valuess");
        Desk.questionFaultAt(1, "total ahead^");
        Desk.questionFaultAt(1, "total ahead^5");
        Desk.questionFaultAt(1, "total ahead ^-1");
        Desk.questionFaultAt(1, "total col ^first");
        Desk.questionFaultAt(1, "total col^");
        Desk.questionFaultAt(1, "least^\t5");
        for (String word : "zig arc ring sum from to by at up down of fast slow is marks slip prev or and".split(" ")) {
            Desk.questionFaultAt(1, "most ^" + word);
        }
        Desk d = new Desk();
        Desk.due("a full tape", d.ask("total 1" + " ".repeat(1593)), 0);
        Desk.due("a full tape", d.ask("total 1" + " ".repeat(1592) + "5"), NO);
        d.faultDue("a full tape", 1, 1599);
        Desk.due("a full tape", d.ask("total" + " ".repeat(1595)), NO);
        d.faultDue("a full tape", 1, 1600);
        d.statusDue(1, 0);
    }

    /** Behind a | the question may end. */
    private static final String WHOLE = "often not number < 1 | and [ all or sort = 2 ] | or value > drift | "
            + "- ahead 5 | * 2 | + col ( line + 1 ) | / min ( 3 , max ( 1 , 2 ) ) |";

    private static void wholeQuestion() {
        Desk.about = "1 as in I: at each place of a question";
        String[] parts = WHOLE.split(" ");
        String text = "";
        for (int i = 0; i < parts.length; i++) {
            boolean word = parts[i].length() > 1 && Character.isLetter(parts[i].charAt(0));
            if (word) {
                Desk.questionFaultAt(1, text + "^q" + parts[i].substring(1));
                Desk.questionFaultAt(1, text + "^" + parts[i] + "q");
                Desk.questionFaultAt(1, text + "^" + parts[i].substring(1) + " 5");
            }
            text = parts[i].equals("|") ? text : text + parts[i] + " ";
            boolean whole = parts[i].equals("|") || i + 1 < parts.length && parts[i + 1].equals("|");
            if (whole) {
                askDue(new Desk(), text, 0);
            } else {
                Desk.questionFaultAt(1, text + "^");
                Desk.questionFaultAt(1, text + " \n^");
            }
            for (char none : "?;!&|:~Z{".toCharArray()) {
                Desk.questionFaultAt(1, text + "^" + none);
            }
        }
        for (String sort : new String[] {"first all", "last all", "often all", "total 1", "most 1", "least 1"}) {
            Desk.questionFaultAt(1, "^q" + sort.substring(1));
            Desk.questionFaultAt(1, "^q" + sort);
            Desk.questionFaultAt(1, "^" + sort.substring(1));
            Desk.questionFaultAt(1, sort + " ^" + sort);
            Desk.questionFaultAt(1, sort.substring(0, sort.indexOf(' ')) + "^");
        }
    }

    private static void openInQuestions() {
        Desk.about = "4 the 7th of ( [ not ahead col that is open at once, at it";
        Desk d = Desk.with(EIGHT);
        askDue(d, "most ((((((5))))))", 5);
        Desk.questionFaultAt(4, "most ((((((^(5)))))))");
        askDue(d, "most col col col col col col 0", 6);
        Desk.questionFaultAt(4, "most col col col col col col ^col 0");
        askDue(d, "most ahead ahead ahead ahead ahead ahead 0*0+3", 3);
        Desk.questionFaultAt(4, "most ahead ahead ahead ahead ahead ahead ^ahead 0");
        Desk.questionFaultAt(4, "most col ahead col ahead col ahead ^(1)");
        Desk.questionFaultAt(4, "most col ahead col ahead col ahead min^(1,2)");
        Desk.questionFaultAt(4, "most ((((((^col 1))))))");
        Desk.questionFaultAt(4, "most min(1,max(1,(((( ^ahead 1))))))");
        askDue(d, "often not not not not not not all", 8);
        Desk.questionFaultAt(4, "often not not not not not not ^not all");
        askDue(d, "often [[[[[[all]]]]]]", 8);
        Desk.questionFaultAt(4, "often [[[[[[^[all]]]]]]]");
        Desk.questionFaultAt(4, "often [not [not [not ^col 1=1]]]");
        Desk.questionFaultAt(4, "often [not [not [not 1=^col 1]]]");
        askDue(d, "often [not [not [col 1=2]]]", 8);
    }

    private static void untilItsPartEnds() {
        Desk.about = "ahead, col until its PART ends; not until its FACT ends";
        Desk d = Desk.with(EIGHT);
        askDue(d, "most col col col col col col 0+col col col col col col 0", 12);
        askDue(d, "most col 0*col 0*col 0*col 0*col 0*col 0*col 0", 1);
        askDue(d, "most col 0+ahead 0*0+((((((1))))))", 2);
        askDue(d, "most col(((((0)))))+col(((((0)))))", 2);
        Desk.questionFaultAt(4, "most col(((((^(0))))))");
        askDue(d, "often col 0=1 and col 0=1 and col 0=1 and col 0=1 and col 0=1 and col 0=1 and col 0=1", 8);
        askDue(d, "often not not not not not col 0=col 0", 0);
        askDue(d, "often not all or not not not not not not all", 8);
    }

    private static void tapeAndState() {
        Desk.about = "promise 29: the tape (it goes) is a QUESTION; NOTHING with a FAULT";
        Desk d = Desk.with(FOUR + "marks all;slip 100;");
        d.x.chance(2);
        d.find(0, 0, 0, 6);
        d.x.image();
        long[] values = {d.x.value(0, 0), d.x.value(1, 0), d.x.value(2, 0), d.x.value(3, 0)};
        Desk.due("ask() with a fault", d.ask("total x"), NO);
        Desk.due("the tape is gone", d.x.end(1), false);
        askDue(d, "total value", values[0] + values[1] + values[2] + values[3]);
        Desk.due("the tape is gone", d.x.end(1), false);
        d.valuesDue(values);
        Desk.due("has(1)", d.x.has(1), 2);
        Desk.due("has(4)", d.x.has(4), 2);
        Desk.due("has(5)", d.x.has(5), 1);
        Desk.due("has(6)", d.x.has(6), 1);
        d.statusDue(1, 0);
        d.statusDue(0, 2);
    }

    private static int seal(int... bytes) {
        int seal = 181;
        for (int b : bytes) {
            seal = (3 * seal + b) % 251;
        }
        return seal;
    }

    private static void imageDue(Desk d, int... bytes) {
        Desk.due("image()", d.x.image(), bytes.length + 1);
        for (int k = 0; k < bytes.length; k++) {
            Desk.due("octet(" + k + ")", d.x.octet(k), bytes[k]);
        }
        Desk.due("the last octet", d.x.octet(bytes.length), seal(bytes));
        Desk.due("octet behind it", d.x.octet(bytes.length + 1), -1);
    }

    private static void imageBytes() {
        Desk.about = "AN IMAGE: LINE (two bytes); its value and 1000000 (three bytes), 1 if it is a ZIG that goes up";
        imageDue(new Desk(), 0, 0);
        Desk.due("its last byte", new Desk().x.octet(2), -1);
        Desk d = Desk.with(FOUR);
        imageDue(d, 0, 0, 15, 66, 70, 1, 15, 66, 72, 0, 15, 66, 70, 0, 15, 66, 58, 0);
        d.x.turn(0);
        d.x.put(0, 3);
        d.x.put(1, 299);
        d.x.put(2, 0);
        imageDue(d, 0, 0, 15, 66, 67, 0, 15, 67, 107, 0, 15, 66, 64, 0, 15, 66, 58, 0);
        Desk lines = Desk.with("sum s is 9999*9999;sum t is 0-9999*9999;sum u is line;");
        int[] at = {0, 1, 255, 256, 257, 998, 999};
        int line = 0;
        for (int next : at) {
            for (; line < next; line += Math.min(100, next - line)) {
                lines.x.write(Math.min(100, next - line));
            }
            int raised = 1000000 + next;
            imageDue(lines, next / 256, next % 256, 30, 132, 128, 0, 0, 0, 0, 0,
                    raised / 65536, raised / 256 % 256, raised % 256, 0);
        }
        Desk eight = Desk.with(EIGHT);
        Desk.due("image() of eight", eight.x.image(), 35);
        Desk.due("octet(34)", eight.x.octet(34) >= 0, true);
        Desk.due("octet(35)", eight.x.octet(35), -1);
    }

    private static void latestImage() {
        Desk.about = "promise 31: byte k of the latest image(); NONE when there is none such";
        Desk d = Desk.with(FOUR);
        for (int k : new int[] {0, 1, -1, Integer.MIN_VALUE, Integer.MAX_VALUE}) {
            Desk.due("octet(" + k + ") ahead of any", d.x.octet(k), -1);
        }
        d.x.image();
        d.x.write(1);
        Desk.due("octet(1) of the line ahead", d.x.octet(1), 0);
        d.x.image();
        Desk.due("octet(1)", d.x.octet(1), 1);
        Desk.due("octet(18)", d.x.octet(18) >= 0, true);
        for (int k : new int[] {19, 20, 34, 35, -1, Integer.MIN_VALUE, Integer.MAX_VALUE}) {
            Desk.due("octet(" + k + ")", d.x.octet(k), -1);
        }
        d.tell("");
        Desk.due("octet(1): the latest is not of this tablet", d.x.octet(1), 1);
        d.x.image();
        Desk.due("octet(3) of a shorter one", d.x.octet(3), -1);
        Desk.due("octet(2) of a shorter one", d.x.octet(2), seal(0, 0));
    }

    private static void onOfAnImage() {
        Desk.about = "promise 32: true, all is as it tells, nothing is KEPT or can be undone";
        Desk d = Desk.with(FOUR + "marks all;slip 100;");
        d.x.write(3);
        d.x.put(0, 3);
        d.find(0, 0, 0, 6);
        Desk.due("on()", d.onSealed(1, 44, 15, 66, 73, 0, 15, 66, 64, 0, 15, 66, 70, 0, 15, 66, 60, 0), true);
        Desk.due("the tape is gone", d.x.end(1), false);
        Desk.due("has(1)", d.x.has(1), 300);
        d.valuesDue(9, 0, 6, -4);
        Desk.due("column(0, 1)", d.x.column(0, 1), 0);
        Desk.due("has(4)", d.x.has(4), 0);
        Desk.due("has(5) stays", d.x.has(5), 1);
        Desk.due("has(6)", d.x.has(6), 0);
        Desk.due("undo()", d.x.undo(), false);
        d.statusDue(5, 0);
        d.laterDue(0, 9, 6, 3, 6);
        d.laterDue(1, 0, 2, 4, 9);
        d.laterDue(2, 6, 4, 2);
        d.laterDue(3, -4, -10, -13);
        Desk.due("write(1)", d.x.write(1), 1);
        Desk.due("kept(0, 0)", d.x.kept(0, 0), 301);
        Desk.due("value(3, 1) is told from LINE 0 on", d.x.value(3, 1), trueSum(301));
        Desk seeded = Desk.with("ring r of 999 at 0 by 0;slip 100;");
        seeded.x.chance(1);
        seeded.onSealed(0, 0, 15, 66, 64, 0);
        seeded.x.chance(1);
        seeded.valuesDue(4); // the seed is the image's no part: slips by 3, then by 4
    }

    /** FOUR's sum: 6 at first, then 9 6 3 6 and again. */
    private static int trueSum(int line) {
        int[] zig = {6, 9, 6, 3};
        int sum = 0;
        for (int i = 0; i <= line; i++) {
            sum -= zig[i % 4];
        }
        return sum;
    }

    private static void onAtTheEdges() {
        Desk.about = "promise 32: LINE 999 at most; what a ZIG, ARC, RING can tell; a SUM from -1000000 to 1000000";
        Desk d = Desk.with(FOUR);
        int[][] good = {
            {0, 0, 15, 66, 67, 0, 15, 66, 64, 0, 15, 66, 64, 0, 0, 0, 0, 0},
            {3, 231, 15, 66, 73, 1, 15, 67, 107, 0, 15, 66, 70, 0, 30, 132, 128, 0},
            {2, 255, 15, 66, 73, 0, 15, 67, 107, 0, 15, 66, 70, 0, 15, 66, 64, 0},
        };
        long[][] tells = {{0, 3, 0, 0, -1000000}, {999, 9, 299, 6, 1000000}, {767, 9, 299, 6, 0}};
        for (int i = 0; i < good.length; i++) {
            Desk.due("on() of " + Arrays.toString(good[i]), d.onSealed(good[i]), true);
            Desk.due("has(1)", d.x.has(1), tells[i][0]);
            d.valuesDue(Arrays.copyOfRange(tells[i], 1, 5));
            Desk.due("column(0, 1)", d.x.column(0, 1), good[i][5]);
            imageDue(d, good[i]);
        }
        Desk bare = new Desk();
        Desk.due("on() without columns", bare.onSealed(3, 231), true);
        Desk.due("has(1)", bare.x.has(1), 999);
        Desk.due("on() without columns beyond LINE 999", bare.onSealed(3, 232), false);
        Desk eight = Desk.with(EIGHT);
        int[] bytes = new int[eight.x.image()];
        for (int k = 0; k < bytes.length; k++) {
            bytes[k] = eight.x.octet(k);
        }
        eight.x.write(9);
        Desk.due("on() of eight columns", eight.on(bytes), true);
        eight.valuesDue(1, 2, 3, 4, 5, 6, 7, 8);
    }

    private static void onRefused() {
        Desk.about = "promise 32: false, refused (5), when it is none, all staying";
        Desk d = Desk.with(FOUR + "marks all;");
        d.x.write(2);
        d.x.put(1, 200);
        d.find(0, 0, 0, 6);
        int[] good = {3, 231, 15, 66, 73, 1, 15, 67, 107, 0, 15, 66, 70, 0, 30, 132, 128, 0};
        int[][] changes = {
            {1, 232}, {0, 4}, {0, 255}, // LINE 1000, 1255 and far beyond
            {4, 66}, {4, 74}, {3, 67}, {3, 65}, {2, 16}, {2, 0}, // a ZIG
            {8, 108}, {7, 68}, {6, 255}, {6, 0}, // an ARC
            {12, 71}, {12, 63}, {10, 14}, // a RING
            {16, 129}, {15, 133}, {14, 31}, {14, 255}, // a SUM
            {5, 2}, {5, 255}, {9, 1}, {13, 1}, {17, 1}, {17, 2}, // up 1 of ZIGS alone
        };
        int refused = 0;
        for (int[] change : changes) {
            int[] bytes = good.clone();
            bytes[change[0]] = change[1];
            Desk.due("on() with byte " + Arrays.toString(change), d.onSealed(bytes), false);
            refused++;
            d.statusDue(5, refused);
            Desk.due("the tape is gone", d.x.end(1), false);
        }
        int[][] noImages = {{}, {0}, {0, 0}, {seal()}, Arrays.copyOf(good, 17), good, Arrays.copyOf(good, 19)};
        for (int[] bytes : noImages) {
            Desk.due("on() of " + Arrays.toString(bytes), d.on(bytes), false);
            refused++;
        }
        for (int length : new int[] {0, 2, 14, 17, 19, 22}) {
            Desk.due("on() of a length of " + length, d.onSealed(Arrays.copyOf(good, length)), false);
            refused++;
        }
        int[] longer = Arrays.copyOf(good, 20);
        longer[18] = seal(good);
        Desk.due("on() of a good one and a byte behind it", d.on(longer), false);
        refused++;
        d.lay(Arrays.copyOf(longer, 19));
        d.x.end(18);
        Desk.due("on() of a good one that was cut", d.x.on(), false);
        refused++;
        for (int off : new int[] {1, 250, 128}) {
            int[] bytes = Arrays.copyOf(good, 19);
            bytes[18] = (seal(good) + off) % 256;
            Desk.due("on() with a seal off by " + off, d.on(bytes), false);
            refused++;
        }
        d.statusDue(5, refused);
        d.hasDue(4, 2, 1, 1, 2, 1, 2);
        d.valuesDue(6, 200, 2, -21);
        Desk.due("on() of the good one", d.onSealed(good), true);
        d.statusDue(5, refused);
    }

    private static void onOfAnotherTablet() {
        Desk.about = "promise 32: AN IMAGE of this TABLET";
        Desk d = Desk.with("ring r of 9 at 4 by 1;");
        int[] ring = {0, 5, 15, 66, 72, 0};
        Desk.due("on()", d.onSealed(ring), true);
        d.tell("ring r of 8 at 4 by 1;");
        Desk.due("on() of one with fewer places", d.onSealed(ring), false);
        d.tell("ring r of 9 at 4 by 1;sum s is 1;");
        Desk.due("on() of one with more columns", d.onSealed(ring), false);
        d.tell("");
        Desk.due("on() of one without columns", d.onSealed(ring), false);
        d.tell("sum s is 1;");
        Desk.due("on() of a sum", d.onSealed(ring), true);
        d.tell("zig z from 8 to 9 by 1 at 8 up;");
        Desk.due("on() of a zig", d.onSealed(ring), true);
        Desk.due("column(0, 1)", d.x.column(0, 1), 0);
    }
}
