/** The edges that part II and promises 9, 10, 23 to 28 name, from both sides. */
public final class EdgeLinesTest {
    /** Seeds by which, with slip 100, the first line's slip is by 1, 2 .. 9. */
    private static final int[] SEED_OF_SLIP = {10, 0, 1, 2, 4, 5, 6, 7, 8};

    public static void main(String[] args) {
        lineZero();
        nextLine();
        zigsAtTheirBounds();
        arcsAtTheirParts();
        ringsRoundAndRound();
        sumsHeldFromLineToLine();
        markedLines();
        whatIsTrue();
        slipsBelow();
        slipsRound();
        sumsDoNotSlip();
        whatIsBehindStays();
        drawsOfColumns();
        draws();
        keptLines();
        keptBehindTheSlip();
        lastActs();
        valuesAsked();
        write();
        put();
        turn();
        chance();
        undo();
        seed();
        Desk.finish();
    }

    private static void lineZero() {
        Desk.about = "the tablet begins with LINE 0: each its start, each sum what its SUM tells (prev is 0)";
        Desk d = Desk.with("zig z from 2 to 9 by 3 at 9 up;arc a of 9 at 8 to 4 fast 2 slow 5;"
                + "ring r of 7 at 6 by 5;sum s is prev+z*100+line;sum t is s-prev;marks line=0;");
        d.valuesDue(9, 8, 6, 900, 900);
        for (int c = 0; c < 5; c++) {
            Desk.due("value(" + c + ", 1)", d.x.value(c, 1), d.x.value(c, 0));
        }
        d.hasDue(5, 0, 1, 0, 0, 0, 0);
        d.x.write(1);
        Desk.due("LINE 0 was not written, so it is not KEPT", d.x.has(4), 0);
    }

    private static void nextLine() {
        Desk.about = "its number is one more; then COLUMN by COLUMN, by what is told of those ahead in it";
        Desk d = Desk.with("sum n is line;ring a of 9 at 1 by 2;ring b of 9 at 1 by a;sum c is a*10+b;");
        d.valuesDue(0, 1, 1, 11);
        d.x.write(1);
        d.valuesDue(1, 3, 4, 34);
        d.x.write(1);
        d.valuesDue(2, 5, 0, 50);
        Desk.due("has(1)", d.x.has(1), 2);
        Desk.about = "prev: what this COLUMN told in the LINE ahead";
        Desk prev = Desk.with("ring a of 9 at 5 by 0;sum b is prev+1;ring c of 99 at 2 by prev;sum d is prev+10;");
        prev.laterDue(1, 1, 2, 3);
        prev.laterDue(2, 2, 4, 8, 16, 32, 64, 29);
        prev.laterDue(3, 10, 20, 30);
        prev.x.put(2, 50);
        prev.laterDue(2, 50, 1, 2);
    }

    private static void zigsAtTheirBounds() {
        Desk.about = "a ZIG just at a bound goes on the same way";
        Desk d = Desk.with("zig z from 3 to 9 by 3 at 6 up;");
        d.x.write(1);
        d.valuesDue(9);
        Desk.due("column(0, 1) at the high bound", d.x.column(0, 1), 1);
        d.x.write(1);
        d.valuesDue(6);
        Desk.due("column(0, 1) behind it", d.x.column(0, 1), 0);
        d.x.write(1);
        d.valuesDue(3);
        Desk.due("column(0, 1) at the low bound", d.x.column(0, 1), 0);
        d.x.write(1);
        d.valuesDue(6);
        Desk.due("column(0, 1) behind it", d.x.column(0, 1), 1);
        Desk.about = "a ZIG beyond its bound by so much is as much on this side of it";
        Desk.with("zig z from 3 to 9 by 3 at 7 up;").laterDue(0, 7, 8, 5, 4, 7, 8);
        Desk.with("zig z from 3 to 9 by 3 at 5 down;").laterDue(0, 5, 4, 7, 8, 5, 4);
        Desk.with("zig z from 3 to 9 by 6 at 9 up;").laterDue(0, 9, 3, 9, 3);
        Desk.with("zig z from 3 to 9 by 6 at 3 down;").laterDue(0, 3, 9, 3, 9);
        Desk.with("zig z from 3 to 9 by 6 at 3 up;").laterDue(0, 3, 9, 3, 9);
        Desk.with("zig z from 3 to 9 by 6 at 4 up;").laterDue(0, 4, 8, 4, 8);
        Desk.with("zig z from 3 to 9 by 6 at 6 up;").laterDue(0, 6, 6, 6);
        Desk.with("zig z from 0 to 1 by 1 at 1 up;").laterDue(0, 1, 0, 1, 0);
        Desk.with("zig z from 0 to 999 by 999 at 1 up;").laterDue(0, 1, 998, 1, 998);
        Desk middle = Desk.with("zig z from 3 to 9 by 6 at 6 up;");
        middle.x.write(1);
        Desk.due("column(0, 1) of one that turns in its place", middle.x.column(0, 1), 0);
    }

    private static void arcsAtTheirParts() {
        Desk.about = "an ARC that would come to the first place behind its part, or beyond it by so much (0 and more)";
        // quick 0 .. 7 by 4, slow 8 .. 19 by 3
        String arc = "arc a of 20 at %d to 8 fast 4 slow 3;";
        int[][] next = {{0, 4}, {3, 7}, {4, 8}, {5, 8}, {6, 9}, {7, 10}, {8, 11}, {16, 19}, {17, 0}, {18, 1}, {19, 2}};
        for (int[] n : next) {
            Desk.with(String.format(arc, n[0])).laterDue(0, n[0], n[1]);
        }
        // quick 0 .. 3 by 2, slow 4 .. 8 by 5
        int[][] slower = {{0, 2}, {1, 3}, {2, 4}, {3, 6}, {4, 0}, {5, 0}, {6, 0}, {7, 1}, {8, 1}};
        for (int[] n : slower) {
            Desk.with("arc a of 9 at " + n[0] + " to 4 fast 2 slow 5;").laterDue(0, n[0], n[1]);
        }
        // the least parts, the greatest steps
        Desk.with("arc a of 4 at 0 to 2 fast 2 slow 2;").laterDue(0, 0, 2, 0);
        Desk.with("arc a of 4 at 1 to 2 fast 2 slow 2;").laterDue(0, 1, 3, 1);
        Desk.with("arc a of 4 at 1 to 2 fast 2 slow 1;").laterDue(0, 1, 2, 3, 0, 2);
        Desk.with("arc a of 4 at 2 to 2 fast 1 slow 2;").laterDue(0, 2, 0, 1, 2);
        Desk.with("arc a of 4 at 3 to 2 fast 1 slow 2;").laterDue(0, 3, 0, 1, 2);
        Desk.with("arc a of 999 at 996 to 997 fast 997 slow 2;").laterDue(0, 996, 998, 498);
        Desk.with("arc a of 999 at 998 to 2 fast 2 slow 997;").laterDue(0, 998, 1, 500, 0, 2, 0);
    }

    private static void ringsRoundAndRound() {
        Desk.about = "a RING goes on by what its SUM tells, round and round (below 0 back)";
        String[] by = {"0", "1", "4", "5", "8", "9", "10", "14", "900", "0-1", "0-4", "0-5", "0-9", "0-14", "0-900",
            "9999*9999", "0-9999*9999"};
        int[] next = {4, 5, 8, 0, 3, 4, 5, 0, 4, 3, 0, 8, 4, 8, 4, 5, 3};
        for (int i = 0; i < by.length; i++) {
            Desk.with("ring r of 9 at 4 by " + by[i] + ";").laterDue(0, 4, next[i]);
        }
        Desk.with("ring r of 2 at 1 by 1;").laterDue(0, 1, 0, 1);
        Desk.with("ring r of 2 at 0 by 0-1;").laterDue(0, 0, 1, 0);
        Desk.with("ring r of 999 at 998 by 1;").laterDue(0, 998, 0, 1);
        Desk.with("ring r of 999 at 0 by 0-1;").laterDue(0, 0, 998, 997);
        // 1000000 is 1001 rounds and 1 more
        Desk.with("ring r of 999 at 998 by 9999*9999;").laterDue(0, 998, 0, 1);
    }

    private static void sumsHeldFromLineToLine() {
        Desk.about = "a SUM is held from LINE to LINE";
        Desk.with("sum s is prev*1000+1000;").laterDue(0, 1000, 1000000, 1000000);
        Desk.with("sum s is prev*1000-1000;").laterDue(0, -1000, -1000000, -1000000);
        Desk.with("sum s is prev-9999*99;").laterDue(0, -989901, -1000000, -1000000);
    }

    private static void markedLines() {
        Desk.about = "a LINE is MARKED, if the TEST of marks holds for it";
        Desk d = Desk.with("ring r of 9 at 0 by 1;sum s is line*r;marks r=2 or s>16 and s<37;");
        int[] marked = {0, 0, 1, 0, 0, 1, 1, 0, 0};
        for (int line = 0; line < 9; line++) {
            Desk.due("has(2) at line " + line, d.x.has(2), marked[line]);
            d.x.write(1);
        }
        d.x.put(0, 2);
        Desk.due("has(2) of what was set", d.x.has(2), 1);
        d.x.undo();
        Desk.due("has(2) of what was set no more", d.x.has(2), 0);
    }

    private static void whatIsTrue() {
        Desk.about = "TRUE is what the tablet would tell in a LINE, if there were no slips, and no acts but LINES";
        Desk d = Desk.with("ring r of 9 at 0 by 1;sum s is prev+r;slip 100;");
        d.x.put(0, 5);
        d.x.write(1);
        d.valuesDue(6, 6);
        d.x.chance(2);
        Desk.due("value(0, 1)", d.x.value(0, 1), 3);
        Desk.due("value(1, 1)", d.x.value(1, 1), 6);
        d.onSealed(3, 231, 15, 66, 64, 0, 15, 66, 64, 0);
        Desk.due("value(0, 1) at line 999", d.x.value(0, 1), 0);
        Desk.due("value(1, 1) at line 999", d.x.value(1, 1), 36 * 111);
        d.onSealed(0, 0, 15, 66, 64, 0, 15, 66, 64, 0);
        Desk.due("value(1, 1) at line 0", d.x.value(1, 1), 0);
    }

    private static void slipDue(int seed, int slip, int slips) {
        Desk d = Desk.with("ring r of 100 at 0 by 0;slip " + slip + ";");
        d.x.seed(seed);
        Desk.due("chance(1) by seed " + seed + ", slip " + slip, d.x.chance(1), slips);
    }

    private static void slipsBelow() {
        Desk.about = "a DRAW of 100: below slip";
        slipDue(42, 0, 0); // the draw is 0
        slipDue(42, 1, 1);
        slipDue(1, 18, 0); // 18
        slipDue(1, 19, 1);
        slipDue(119, 99, 0); // 99
        slipDue(119, 100, 1);
        Desk.about = "without slip no line slips";
        Desk bare = Desk.with("ring r of 100 at 0 by 0;");
        Desk.due("chance(100)", bare.x.chance(100), 0);
        Desk.about = "with slip 100 each line slips";
        Desk full = Desk.with("ring r of 100 at 0 by 0;slip 100;");
        Desk.due("chance(100)", full.x.chance(100), 100);
        Desk.about = "if there are COLUMNS";
        Desk none = Desk.with("slip 100;");
        Desk.due("chance(100)", none.x.chance(100), 0);
        none.tell("ring r of 999 at 0 by 0;slip 100;");
        none.x.chance(1);
        Desk.due("without COLUMNS one draw a line", none.x.value(0, 0), drawn(1, 100 + 3, 9) + 1);
    }

    /** What the column tells behind a line in which it slips by this. */
    private static int slipped(String text, int by) {
        Desk d = Desk.with(text + "slip 100;");
        d.x.seed(SEED_OF_SLIP[by - 1]);
        Desk.due("chance(1)", d.x.chance(1), 1);
        return (int) d.x.value(0, 0);
    }

    private static void slipsRound() {
        Desk.about = "a DRAW of 9: SLIPS by one more than this";
        for (int by = 1; by <= 9; by++) {
            Desk.due("slip by " + by, slipped("ring r of 100 at 0 by 0;", by), by);
        }
        Desk.about = "a ZIG to its value so much up, from its low bound on again beyond the high one (its way stays)";
        String zig = "zig z from 3 to 12 by 1 at 5 up;"; // 6 in line 1
        int[] due = {7, 8, 9, 10, 11, 12, 3, 4, 5};
        for (int by = 1; by <= 9; by++) {
            Desk.due("slip by " + by, slipped(zig, by), due[by - 1]);
        }
        Desk.due("just its own value again", slipped("zig z from 3 to 4 by 1 at 3 up;", 2), 4);
        Desk.due("round more than once", slipped("zig z from 3 to 4 by 1 at 3 up;", 9), 3);
        for (String way : new String[] {"up", "down"}) {
            Desk d = Desk.with("zig z from 3 to 12 by 1 at 12 " + way + ";slip 100;");
            d.x.turn(0);
            d.x.turn(0);
            d.x.chance(1); // 11, and 3 on: 4
            d.valuesDue(4);
            Desk.due("column(0, 1)", d.x.column(0, 1), 0);
        }
        Desk up = Desk.with("zig z from 3 to 12 by 1 at 10 up;slip 100;");
        up.x.chance(1); // 11, and 3 on: 4
        up.valuesDue(4);
        Desk.due("column(0, 1)", up.x.column(0, 1), 1);
        up.laterDue(0, 4, 5, 6);
        Desk.about = "an ARC, a RING on by so many places";
        Desk.due("arc to its last place", slipped("arc a of 20 at 12 to 8 fast 4 slow 3;", 4), 19);
        Desk.due("arc to its first place", slipped("arc a of 20 at 12 to 8 fast 4 slow 3;", 5), 0);
        Desk.due("arc", slipped("arc a of 20 at 12 to 8 fast 4 slow 3;", 6), 1);
        Desk.due("arc out of its quick part", slipped("arc a of 20 at 0 to 8 fast 4 slow 3;", 9), 13);
        Desk.due("arc more than once round", slipped("arc a of 4 at 0 to 2 fast 1 slow 1;", 8), 1);
        Desk.due("ring to its last place", slipped("ring r of 9 at 4 by 1;", 3), 8);
        Desk.due("ring to its first place", slipped("ring r of 9 at 4 by 1;", 4), 0);
        Desk.due("ring all round", slipped("ring r of 9 at 4 by 1;", 9), 5);
        Desk.due("ring more than once round", slipped("ring r of 2 at 0 by 1;", 9), 0);
    }

    private static void sumsDoNotSlip() {
        Desk.about = "a SUM does not slip (a SUM drawn does not count), its draws come";
        Desk d = Desk.with("sum s is line;slip 100;");
        Desk.due("chance(2)", d.x.chance(2), 0);
        d.valuesDue(2);
        Desk.due("tablet()", d.tell("ring r of 100 at 0 by 0;slip 100;"), 2);
        Desk.due("chance(1)", d.x.chance(1), 1);
        d.valuesDue(1); // the third line's slip is by 1
    }

    private static void whatIsBehindStays() {
        Desk.about = "what is told of COLUMNS behind it in this LINE stays";
        Desk d = Desk.with("ring r of 100 at 0 by 0;sum s is prev+r;sum t is s;slip 100;");
        d.x.chance(1); // column 0 of 3, by 3
        d.valuesDue(3, 0, 0);
        d.x.write(1);
        d.valuesDue(3, 3, 3);
        d.x.write(1);
        d.valuesDue(3, 6, 6);
    }

    private static void drawsOfColumns() {
        Desk.about = "a DRAW of these (COLUMNS)";
        StringBuilder text = new StringBuilder("slip 100;");
        for (char name = 'a'; name <= 'h'; name++) {
            text.append("ring ").append(name).append(" of 100 at 0 by 0;");
        }
        Desk last = Desk.with(text.toString());
        last.x.seed(8); // column 7 of 8, by 9
        last.x.chance(1);
        last.valuesDue(0, 0, 0, 0, 0, 0, 0, 9);
        Desk first = Desk.with(text.toString());
        first.x.seed(6); // column 3 of 8, by 7
        first.x.chance(1);
        first.valuesDue(0, 0, 0, 7, 0, 0, 0, 0);
        Desk four = Desk.with(text.substring(0, text.indexOf("ring e")));
        four.x.chance(2); // column 3 of 4, by 3; column 0, by 4
        four.valuesDue(4, 0, 0, 3);
    }

    private static int drawn(int seed, int nth, int below) {
        java.math.BigInteger x = java.math.BigInteger.valueOf(seed);
        for (int i = 0; i < nth; i++) {
            x = x.multiply(java.math.BigInteger.valueOf(1103515245)).add(java.math.BigInteger.valueOf(12345))
                    .mod(java.math.BigInteger.ONE.shiftLeft(31));
        }
        return x.divide(java.math.BigInteger.valueOf(64)).mod(java.math.BigInteger.valueOf(below)).intValue();
    }

    private static void draws() {
        Desk.about = "A DRAW of m: x becomes (1103515245 x + 12345) mod 2 to the 31; floor(x / 64) mod m";
        int[] seeds = {0, 1, 2, 1000000000, Integer.MAX_VALUE - 1, Integer.MAX_VALUE};
        for (int seed : seeds) {
            Desk d = Desk.with("ring r of 999 at 0 by 0;slip 100;");
            Desk.due("seed(" + seed + ")", d.x.seed(seed), true);
            int due = 0;
            for (int line = 1; line <= 100; line++) {
                d.x.chance(1);
                due += drawn(seed, 3 * line, 9) + 1;
                Desk.due("by seed " + seed + " in line " + line, d.x.value(0, 0), due % 999);
            }
        }
        Desk.about = "a DRAW of 100 comes behind each LINE by the seed, two more below slip alone";
        Desk none = Desk.with("ring r of 999 at 0 by 0;");
        none.x.chance(7);
        none.tell("ring r of 999 at 0 by 0;slip 100;");
        none.x.chance(1);
        none.valuesDue(drawn(1, 10, 9) + 1);
        Desk.about = "LINES that are written draw nothing";
        Desk written = Desk.with("ring r of 999 at 0 by 0;slip 100;");
        written.x.write(7);
        written.x.chance(1);
        written.valuesDue(drawn(1, 3, 9) + 1);
    }

    private static void keptDue(Desk d, int k, int line, int untrue) {
        Desk.due("kept(" + k + ", 0)", d.x.kept(k, 0), line);
        Desk.due("kept(" + k + ", 1)", d.x.kept(k, 1), untrue);
    }

    private static void keptLines() {
        Desk.about = "KEPT is each LINE written that is MARKED: its number, how many COLUMNS are not TRUE in it";
        Desk d = Desk.with("ring r of 5 at 0 by 1;ring q of 5 at 0 by 1;sum s is r+q;marks line>0;");
        keptDue(d, 0, -1, -1);
        d.x.write(1);
        d.x.put(0, 4);
        d.x.write(1);
        d.x.put(1, 0);
        d.x.write(1);
        Desk.due("has(4)", d.x.has(4), 3);
        keptDue(d, 0, 1, 0);
        keptDue(d, 1, 2, 2);
        keptDue(d, 2, 3, 3);
        keptDue(d, 3, -1, -1);
        keptDue(d, -1, -1, -1);
        keptDue(d, Integer.MIN_VALUE, -1, -1);
        keptDue(d, Integer.MAX_VALUE, -1, -1);
        for (int what : new int[] {-1, 2, Integer.MIN_VALUE, Integer.MAX_VALUE}) {
            Desk.due("kept(0, " + what + ")", d.x.kept(0, what), -1);
        }
        Desk.about = "the last 40 are told";
        Desk many = Desk.with("marks all;");
        many.x.write(39);
        Desk.due("has(4)", many.x.has(4), 39);
        keptDue(many, 39, -1, -1);
        many.x.write(1);
        Desk.due("has(4)", many.x.has(4), 40);
        keptDue(many, 0, 1, 0);
        keptDue(many, 39, 40, 0);
        many.x.write(1);
        Desk.due("has(4)", many.x.has(4), 40);
        keptDue(many, 0, 2, 0);
        keptDue(many, 39, 41, 0);
        keptDue(many, 40, -1, -1);
        many.x.write(100);
        keptDue(many, 0, 102, 0);
        keptDue(many, 39, 141, 0);
        many.x.undo();
        keptDue(many, 0, 2, 0);
        many.x.undo();
        keptDue(many, 0, 1, 0);
        many.x.undo();
        Desk.due("has(4)", many.x.has(4), 39);
        keptDue(many, 38, 39, 0);
    }

    private static void keptBehindTheSlip() {
        Desk.about = "MARKED (as it is behind the slip)";
        Desk comes = Desk.with("ring r of 100 at 0 by 0;marks r=3;slip 100;");
        comes.x.chance(1);
        Desk.due("has(4) of one that slips there", comes.x.has(4), 1);
        keptDue(comes, 0, 1, 1);
        Desk goes = Desk.with("ring r of 100 at 0 by 0;marks r=0;slip 100;");
        goes.x.chance(1);
        Desk.due("has(4) of one that slips away", goes.x.has(4), 0);
        Desk right = Desk.with("ring r of 100 at 50 by 1;sum s is r*2;marks all;slip 20;");
        right.x.chance(3); // 18: column 1 of 2, a SUM; 80: none; 16: column 0
        right.x.write(1);
        keptDue(right, 0, 1, 0);
        keptDue(right, 1, 2, 0);
        keptDue(right, 2, 3, 1);
        keptDue(right, 3, 4, 2);
        Desk still = Desk.with("ring r of 100 at 50 by 1;sum s is r*2;marks all;");
        still.x.chance(100);
        keptDue(still, 39, 100, 0);
        keptDue(still, 0, 61, 0);
        Desk without = Desk.with("ring r of 100 at 0 by 0;marks r=0;");
        without.x.chance(2);
        Desk.due("has(4) of lines by the seed without slip", without.x.has(4), 2);
    }

    private static void lastActs() {
        Desk.about = "ACTS: LINES; one is set; a ZIG is turned; LINES by the seed. The last 20 can be undone";
        Desk d = Desk.with("zig z from 0 to 99 by 1 at 5 up;ring r of 9 at 0 by 0;arc a of 9 at 0 to 4 fast 1 slow 1;");
        d.x.write(3);
        d.x.put(0, 50);
        d.x.put(1, 4);
        d.x.put(2, 4);
        d.x.turn(0);
        d.x.chance(3);
        Desk.due("has(6)", d.x.has(6), 6);
        d.x.write(0);
        d.x.put(0, 100);
        d.x.turn(1);
        d.x.chance(0);
        d.x.seed(3);
        Desk.due("has(6) behind what is no act", d.x.has(6), 6);
        for (int i = 7; i <= 19; i++) {
            d.x.turn(0);
        }
        Desk.due("has(6)", d.x.has(6), 19);
        d.x.turn(0);
        Desk.due("has(6)", d.x.has(6), 20);
        d.x.turn(0);
        Desk.due("has(6)", d.x.has(6), 20);
        for (int i = 0; i < 20; i++) {
            Desk.due("undo() " + i, d.x.undo(), true);
        }
        Desk.due("undo() 20", d.x.undo(), false);
        Desk.due("the first act stays", d.x.has(1), 3);
        d.valuesDue(8, 0, 3);
    }

    private static void valuesAsked() {
        Desk.about = "promise 9: now (0), what is TRUE (1); NOTHING when there is none such, or for others";
        long no = ZigzagTablets.NOTHING;
        Desk d = Desk.with("ring r of 9 at 4 by 1;sum s is 0-5;");
        d.x.put(0, 8);
        Desk.due("value(0, 0)", d.x.value(0, 0), 8);
        Desk.due("value(0, 1)", d.x.value(0, 1), 4);
        Desk.due("value(1, 0)", d.x.value(1, 0), -5);
        Desk.due("value(1, 1)", d.x.value(1, 1), -5);
        for (int other : new int[] {-1, 2, 8, Integer.MIN_VALUE, Integer.MAX_VALUE}) {
            Desk.due("value(" + other + ", 0)", d.x.value(other, 0), no);
            Desk.due("value(" + other + ", 1)", d.x.value(other, 1), no);
            Desk.due("value(0, " + other + ")", d.x.value(0, other), no);
        }
    }

    private static void write() {
        Desk.about = "promise 23: n LINES (1 .. 100); NONE, refused (3), when it can't be (beyond LINE 999)";
        Desk d = Desk.with("sum s is line;marks line=1 or line>100 and line<104;");
        int refused = 0;
        for (int n : new int[] {0, -1, 101, Integer.MIN_VALUE, Integer.MAX_VALUE}) {
            Desk.due("write(" + n + ")", d.x.write(n), -1);
            refused++;
            d.statusDue(3, refused);
            d.hasDue(1, 0, 0, 0, 0, 0, 0);
        }
        Desk.due("write(1)", d.x.write(1), 1);
        Desk.due("write(100)", d.x.write(100), 1);
        Desk.due("write(99)", d.x.write(99), 2);
        for (int i = 0; i < 7; i++) {
            Desk.due("write(100)", d.x.write(100), 0);
        }
        Desk.due("has(1)", d.x.has(1), 900);
        Desk.due("write(100) beyond LINE 999", d.x.write(100), -1);
        Desk.due("has(1)", d.x.has(1), 900);
        Desk.due("write(99) up to LINE 999", d.x.write(99), 0);
        Desk.due("has(1)", d.x.has(1), 999);
        d.valuesDue(999);
        Desk.due("write(1) beyond LINE 999", d.x.write(1), -1);
        Desk.due("chance(1) beyond LINE 999", d.x.chance(1), -1);
        d.statusDue(3, refused + 3);
        d.x.undo();
        Desk.due("has(1)", d.x.has(1), 900);
        Desk.due("write(1)", d.x.write(1), 0);
    }

    private static void put() {
        Desk.about = "promise 24: another value that it can tell (the rest of the LINE stays)";
        Desk d = Desk.with("zig z from 3 to 7 by 1 at 5 down;arc a of 9 at 5 to 4 fast 1 slow 1;"
                + "ring r of 9 at 5 by 1;sum s is z+a+r;");
        int refused = 0;
        int[][] no = {{0, 5}, {0, 2}, {0, 8}, {1, 5}, {1, -1}, {1, 9}, {2, 5}, {2, -1}, {2, 9}, {3, 15}, {3, 0}, {3, 1},
            {4, 0}, {-1, 0}, {8, 0}, {Integer.MIN_VALUE, 0}, {Integer.MAX_VALUE, 0}, {0, Integer.MIN_VALUE},
            {0, Integer.MAX_VALUE}};
        for (int[] n : no) {
            Desk.due("put(" + n[0] + ", " + n[1] + ")", d.x.put(n[0], n[1]), false);
            refused++;
            d.statusDue(2, refused);
        }
        d.hasDue(4, 0, 0, 0, 0, 0, 0);
        int[][] good = {{0, 3}, {0, 7}, {1, 0}, {1, 8}, {2, 0}, {2, 8}};
        for (int[] g : good) {
            Desk.due("put(" + g[0] + ", " + g[1] + ")", d.x.put(g[0], g[1]), true);
            Desk.due("value(" + g[0] + ", 0)", d.x.value(g[0], 0), g[1]);
        }
        d.valuesDue(7, 8, 8, 15);
        Desk.due("column(0, 1) stays", d.x.column(0, 1), 0);
        Desk.due("has(1) stays", d.x.has(1), 0);
        d.statusDue(2, refused);
        d.x.write(1);
        d.valuesDue(6, 0, 0, 6);
        Desk.due("put() without columns", new Desk().x.put(0, 0), false);
    }

    private static void turn() {
        Desk.about = "promise 25: a ZIG goes the other way; false, refused (2), when there is none such";
        Desk d = Desk.with("zig z from 3 to 7 by 1 at 5 down;arc a of 9 at 5 to 4 fast 1 slow 1;"
                + "ring r of 9 at 5 by 1;sum s is 1;");
        int refused = 0;
        for (int c : new int[] {1, 2, 3, 4, -1, 8, Integer.MIN_VALUE, Integer.MAX_VALUE}) {
            Desk.due("turn(" + c + ")", d.x.turn(c), false);
            refused++;
            d.statusDue(2, refused);
        }
        Desk.due("has(6)", d.x.has(6), 0);
        Desk.due("turn(0)", d.x.turn(0), true);
        Desk.due("column(0, 1)", d.x.column(0, 1), 1);
        d.valuesDue(5, 5, 5, 1);
        d.laterDue(0, 5, 6, 7, 6);
        Desk.due("turn(0)", d.x.turn(0), true);
        d.laterDue(0, 5, 4, 3, 4);
        Desk.due("turn() is not what is true", d.x.has(3), 0);
        Desk edge = Desk.with("zig z from 3 to 7 by 1 at 7 up;");
        edge.x.turn(0);
        edge.laterDue(0, 7, 6, 5);
    }

    private static void chance() {
        Desk.about = "promise 26: n LINES by the seed (1 .. 100), one ACT; NONE, refused (3), when it can't be";
        Desk d = Desk.with("ring r of 999 at 0 by 0;slip 100;");
        int refused = 0;
        for (int n : new int[] {0, -1, 101, Integer.MIN_VALUE, Integer.MAX_VALUE}) {
            Desk.due("chance(" + n + ")", d.x.chance(n), -1);
            refused++;
            d.statusDue(3, refused);
        }
        d.hasDue(1, 0, 0, 0, 0, 0, 0);
        Desk.due("chance(1)", d.x.chance(1), 1);
        d.valuesDue(3);
        Desk.due("chance(100)", d.x.chance(100), 100);
        Desk.due("has(1)", d.x.has(1), 101);
        Desk.due("has(6)", d.x.has(6), 2);
        d.x.undo();
        Desk.due("has(1)", d.x.has(1), 1);
        d.valuesDue(3);
        d.onSealed(901 / 256, 901 % 256, 15, 66, 64, 0);
        Desk.due("chance(99) beyond LINE 999", d.x.chance(99), -1);
        d.statusDue(3, refused + 1);
        Desk.due("chance(98) up to LINE 999", d.x.chance(98), 98);
        Desk.due("has(1)", d.x.has(1), 999);
        Desk.due("chance(1) beyond LINE 999", d.x.chance(1), -1);
        Desk.due("a refused one draws nothing", drawnNext(d), drawn(1, 3 * (1 + 100 + 98 + 1), 9) + 1);
    }

    /** By how much the next line by the seed slips. */
    private static long drawnNext(Desk d) {
        d.tell("ring r of 999 at 0 by 0;slip 100;");
        d.x.chance(1);
        return d.x.value(0, 0);
    }

    private static void undo() {
        Desk.about = "promise 27: the latest ACT is undone (the seed stays); false, refused (4), when none can be";
        Desk d = Desk.with("zig z from 0 to 99 by 1 at 5 up;sum s is prev+z;marks all;slip 100;");
        Desk.due("undo()", d.x.undo(), false);
        d.statusDue(4, 1);
        d.x.write(2);
        d.valuesDue(7, 18);
        Desk.due("undo()", d.x.undo(), true);
        d.hasDue(2, 0, 1, 0, 0, 0, 0);
        d.valuesDue(5, 5);
        d.laterDue(1, 5, 11, 18);
        Desk.due("undo()", d.x.undo(), false);
        d.statusDue(4, 2);
        d.x.turn(0);
        d.x.undo();
        Desk.due("column(0, 1)", d.x.column(0, 1), 1);
        d.x.put(0, 50);
        d.x.undo();
        d.valuesDue(5, 5);
        d.x.chance(3);
        d.x.undo();
        d.valuesDue(5, 5);
        d.hasDue(2, 0, 1, 0, 0, 0, 0);
        // an act behind one undone
        d.x.put(0, 50);
        d.x.put(0, 60);
        d.x.undo();
        d.x.put(0, 70);
        d.x.undo();
        d.valuesDue(50, 5);
        d.x.undo();
        d.valuesDue(5, 5);
        Desk.due("undo()", d.x.undo(), false);
        Desk.about = "promise 27: the seed stays";
        Desk seeded = Desk.with("ring r of 999 at 0 by 0;slip 100;");
        seeded.x.chance(2);
        seeded.x.undo();
        seeded.x.chance(1);
        seeded.valuesDue(drawn(1, 9, 9) + 1);
    }

    private static void seed() {
        Desk.about = "promise 28: true; false, refused (5), when it is below 0. (It is 1 at first.)";
        Desk one = Desk.with("ring r of 999 at 0 by 0;slip 100;");
        Desk told = Desk.with("ring r of 999 at 0 by 0;slip 100;");
        Desk.due("seed(1)", told.x.seed(1), true);
        one.x.chance(1);
        told.x.chance(1);
        one.valuesDue(3);
        told.valuesDue(3);
        Desk.due("seed(-1)", one.x.seed(-1), false);
        one.statusDue(5, 1);
        Desk.due("seed(MIN)", one.x.seed(Integer.MIN_VALUE), false);
        one.statusDue(5, 2);
        one.x.chance(1);
        one.valuesDue(3 + drawn(1, 6, 9) + 1);
        Desk.due("seed(0)", one.x.seed(0), true);
        Desk.due("seed(MAX)", one.x.seed(Integer.MAX_VALUE), true);
        one.statusDue(5, 2);
    }
}
