import java.util.function.IntUnaryOperator;

/** The edges that part III and promises 11 to 22 name, from both sides. */
public final class EdgeAheadTest {
    private static final long NO = ZigzagTablets.NOTHING;
    private static final int[] NO_COLUMNS = {-1, 8, Integer.MIN_VALUE, Integer.MAX_VALUE};
    private static final int[] NO_WHATS = {-1, 4, Integer.MIN_VALUE, Integer.MAX_VALUE};

    public static void main(String[] args) {
        later();
        aheadWithoutDraws();
        bounds();
        period();
        when();
        meet();
        marks();
        heal();
        healFewest();
        healLines();
        odds();
        oddsBySlips();
        find();
        findRefused();
        fits();
        fitsAtTheLastLines();
        differences();
        differencesByThePiece();
        tells();
        tellsFirstOfLikeOnes();
        Desk.finish();
    }

    /** Takes a tablet of one ring of 9 places to this line, where the ring tells 0. */
    private static Desk ringAt(int line, String more) {
        Desk d = Desk.with("ring r of 9 at 0 by 1;" + more);
        Desk.due("on()", d.onSealed(line / 256, line % 256, 15, 66, 64, 0), true);
        return d;
    }

    private static void later() {
        Desk.about = "promise 11: n LINES AHEAD (0 .. 200); NOTHING when there is none such, or n can't be";
        Desk d = Desk.with("sum s is line;ring r of 9 at 4 by 1;");
        Desk.due("later(0, 0)", d.x.later(0, 0), 0);
        Desk.due("later(0, 1)", d.x.later(0, 1), 1);
        Desk.due("later(0, 200)", d.x.later(0, 200), 200);
        Desk.due("later(0, 199)", d.x.later(0, 199), 199);
        Desk.due("later(1, 0)", d.x.later(1, 0), 4);
        for (int n : new int[] {-1, 201, 999, Integer.MIN_VALUE, Integer.MAX_VALUE}) {
            Desk.due("later(0, " + n + ")", d.x.later(0, n), NO);
        }
        Desk.due("later(2, 0)", d.x.later(2, 0), NO);
        for (int c : NO_COLUMNS) {
            Desk.due("later(" + c + ", 0)", d.x.later(c, 0), NO);
        }
        Desk.about = "AHEAD are LINES (200 at most, not beyond LINE 999)";
        Desk far = ringAt(799, "");
        Desk.due("later(0, 200) to LINE 999", far.x.later(0, 200), 2);
        far.x.write(1);
        Desk.due("later(0, 200) beyond LINE 999", far.x.later(0, 200), NO);
        Desk.due("later(0, 199) to LINE 999", far.x.later(0, 199), 2);
        Desk last = ringAt(999, "");
        Desk.due("later(0, 0) at LINE 999", last.x.later(0, 0), 0);
        Desk.due("later(0, 1) at LINE 999", last.x.later(0, 1), NO);
    }

    private static void aheadWithoutDraws() {
        Desk.about = "AHEAD are LINES as they come from now on without DRAWS";
        Desk d = Desk.with("ring r of 9 at 4 by 1;slip 100;");
        d.laterDue(0, 4, 5, 6, 7, 8, 0);
        d.x.put(0, 0);
        d.laterDue(0, 0, 1, 2);
        d.x.write(2);
        d.laterDue(0, 2, 3, 4);
        d.x.undo();
        d.laterDue(0, 0, 1, 2);
        Desk other = Desk.with("ring r of 100 at 0 by 0;slip 100;");
        other.x.later(0, 200);
        other.x.odds(0);
        other.x.chance(1);
        other.valuesDue(3);
    }

    private static void boundsDue(Desk d, int column, int n, long... want) {
        for (int what = 0; what < 4; what++) {
            Desk.due("bounds(" + column + ", " + n + ", " + what + ")", d.x.bounds(column, n, what), want[what]);
        }
    }

    private static void bounds() {
        Desk.about = "promise 12: the greatest, how many LINES on it is first, the least, how many on";
        Desk d = Desk.with("zig z from 3 to 9 by 3 at 6 up;sum s is 0-line;sum t is 0-7;"); // 6 9 6 3 6 9 6 3
        boundsDue(d, 0, 0, 6, 0, 6, 0);
        boundsDue(d, 0, 1, 9, 1, 6, 0);
        boundsDue(d, 0, 2, 9, 1, 6, 0);
        boundsDue(d, 0, 3, 9, 1, 3, 3);
        boundsDue(d, 0, 200, 9, 1, 3, 3);
        boundsDue(d, 1, 200, 0, 0, -200, 200);
        boundsDue(d, 1, 199, 0, 0, -199, 199);
        boundsDue(d, 2, 200, -7, 0, -7, 0);
        for (int n : new int[] {-1, 201, Integer.MIN_VALUE, Integer.MAX_VALUE}) {
            boundsDue(d, 0, n, NO, NO, NO, NO);
        }
        boundsDue(d, 3, 0, NO, NO, NO, NO);
        for (int c : NO_COLUMNS) {
            boundsDue(d, c, 0, NO, NO, NO, NO);
        }
        for (int what : NO_WHATS) {
            Desk.due("bounds(0, 0, " + what + ")", d.x.bounds(0, 0, what), NO);
        }
        Desk last = ringAt(997, "");
        boundsDue(last, 0, 2, 2, 2, 0, 0);
        boundsDue(last, 0, 3, NO, NO, NO, NO);
        Desk held = Desk.with("sum s is prev*1000+1000;sum t is prev*1000-1000;");
        boundsDue(held, 0, 5, 1000000, 1, 1000, 0);
        boundsDue(held, 1, 5, -1000, 0, -1000000, 1);
    }

    private static void periodDue(String text, int want) {
        Desk.due("period(0) of " + text, Desk.with(text).x.period(0), want);
    }

    private static void period() {
        Desk.about = "a PERIOD: the fewest LINES (1 .. 999, as if without end); a ZIG goes the same way, too";
        periodDue("zig z from 0 to 1 by 1 at 0 up;", -1); // 0 down comes back, 0 up does not
        periodDue("zig z from 0 to 1 by 1 at 0 down;", 2);
        periodDue("zig z from 0 to 1 by 1 at 1 up;", 2);
        periodDue("zig z from 0 to 4 by 4 at 2 down;", 2);
        periodDue("zig z from 0 to 499 by 1 at 250 up;", 998);
        periodDue("zig z from 0 to 999 by 2 at 1 up;", 999);
        periodDue("zig z from 0 to 500 by 1 at 250 up;", -1);
        periodDue("zig z from 0 to 999 by 999 at 999 up;", 2);
        periodDue("arc a of 4 at 0 to 2 fast 2 slow 2;", 2);
        periodDue("arc a of 4 at 1 to 2 fast 2 slow 2;", 2);
        periodDue("arc a of 999 at 0 to 500 fast 1 slow 1;", 999);
        periodDue("arc a of 999 at 998 to 2 fast 1 slow 1;", 999);
        periodDue("arc a of 20 at 1 to 8 fast 4 slow 3;", -1); // 1 5 8 11 14 17 0 4 8
        periodDue("arc a of 4 at 1 to 2 fast 2 slow 1;", -1);
        Desk.about = "promise 13: NONE when it is none of a ZIG, ARC, does not come back by then, or there is none such";
        periodDue("ring r of 9 at 0 by 1;", -1);
        periodDue("ring r of 9 at 0 by 0;", -1);
        periodDue("sum s is 1;", -1);
        Desk d = Desk.with("zig z from 0 to 1 by 1 at 0 down;");
        Desk.due("period(1)", d.x.period(1), -1);
        for (int c : NO_COLUMNS) {
            Desk.due("period(" + c + ")", d.x.period(c), -1);
        }
        Desk.due("period(0) changes nothing", d.x.value(0, 0), 0);
        d.onSealed(3, 231, 15, 66, 65, 1);
        Desk.due("period(0) at LINE 999", d.x.period(0), 2);
        d.onSealed(3, 231, 15, 66, 65, 0);
        Desk.due("period(0) of one that goes the other way", d.x.period(0), -1);
    }

    private static void when() {
        Desk.about = "promise 14: how many LINES AHEAD (0: now) a COLUMN tells a value first";
        Desk d = Desk.with("sum s is line;zig z from 3 to 9 by 3 at 6 up;sum t is 0-line;");
        Desk.due("when(0, 0)", d.x.when(0, 0), 0);
        Desk.due("when(0, 1)", d.x.when(0, 1), 1);
        Desk.due("when(0, 200)", d.x.when(0, 200), 200);
        Desk.due("when(0, 201)", d.x.when(0, 201), -1);
        Desk.due("when(0, -1)", d.x.when(0, -1), -1);
        Desk.due("when(1, 6)", d.x.when(1, 6), 0);
        Desk.due("when(1, 9)", d.x.when(1, 9), 1);
        Desk.due("when(1, 3)", d.x.when(1, 3), 3);
        Desk.due("when(1, 4)", d.x.when(1, 4), -1);
        Desk.due("when(2, -200)", d.x.when(2, -200), 200);
        Desk.due("when(2, -201)", d.x.when(2, -201), -1);
        Desk.due("when(0, MIN)", d.x.when(0, Integer.MIN_VALUE), -1);
        Desk.due("when(0, MAX)", d.x.when(0, Integer.MAX_VALUE), -1);
        Desk.due("when(3, 0)", d.x.when(3, 0), -1);
        for (int c : NO_COLUMNS) {
            Desk.due("when(" + c + ", 0)", d.x.when(c, 0), -1);
        }
        Desk.due("when(0, 0) without columns", new Desk().x.when(0, 0), -1);
        Desk far = ringAt(994, "");
        Desk.due("when(0, 5) at LINE 999", far.x.when(0, 5), 5);
        Desk.due("when(0, 6) beyond LINE 999", far.x.when(0, 6), -1);
        Desk last = ringAt(999, "");
        Desk.due("when(0, 0) at LINE 999", last.x.when(0, 0), 0);
        Desk.due("when(0, 1) at LINE 999", last.x.when(0, 1), -1);
    }

    private static void meet() {
        Desk.about = "promise 15: (0: now); NONE when they do not, they are one, or there are none such";
        Desk d = Desk.with("sum s is line;sum t is 200;sum u is 201;sum v is 0;sum w is 1;");
        Desk.due("meet(0, 3)", d.x.meet(0, 3), 0);
        Desk.due("meet(3, 0)", d.x.meet(3, 0), 0);
        Desk.due("meet(0, 4)", d.x.meet(0, 4), 1);
        Desk.due("meet(0, 1)", d.x.meet(0, 1), 200);
        Desk.due("meet(2, 0)", d.x.meet(2, 0), -1);
        Desk.due("meet(1, 2)", d.x.meet(1, 2), -1);
        Desk.due("meet(0, 0)", d.x.meet(0, 0), -1);
        Desk.due("meet(4, 4)", d.x.meet(4, 4), -1);
        Desk.due("meet(0, 5)", d.x.meet(0, 5), -1);
        Desk.due("meet(5, 0)", d.x.meet(5, 0), -1);
        Desk.due("meet(5, 5)", d.x.meet(5, 5), -1);
        for (int c : NO_COLUMNS) {
            Desk.due("meet(0, " + c + ")", d.x.meet(0, c), -1);
            Desk.due("meet(" + c + ", 0)", d.x.meet(c, 0), -1);
        }
        Desk far = Desk.with("ring r of 9 at 0 by 1;ring q of 9 at 5 by 0;");
        far.onSealed(3, 226, 15, 66, 64, 0, 15, 66, 69, 0);
        Desk.due("meet(0, 1) at LINE 999", far.x.meet(0, 1), 5);
        far.x.put(1, 6);
        Desk.due("meet(0, 1) beyond LINE 999", far.x.meet(0, 1), -1);
    }

    private static void marksDue(Desk d, int n, int... want) {
        for (int what = 0; what < 3; what++) {
            Desk.due("marks(" + n + ", " + what + ")", d.x.marks(n, what), want[what]);
        }
    }

    private static void marks() {
        Desk.about = "promise 16: of the next n LINES (1 .. 200): how many, the first (0 without), the longest row";
        Desk d = Desk.with("marks line=0 or line=3 or line=4 or line=8 or line=200;");
        marksDue(d, 1, 0, 0, 1);
        marksDue(d, 2, 0, 0, 2);
        marksDue(d, 3, 1, 3, 2);
        marksDue(d, 4, 2, 3, 2);
        marksDue(d, 6, 2, 3, 2);
        marksDue(d, 7, 2, 3, 3);
        marksDue(d, 8, 3, 3, 3);
        marksDue(d, 11, 3, 3, 3);
        marksDue(d, 12, 3, 3, 4);
        marksDue(d, 199, 3, 3, 191);
        marksDue(d, 200, 4, 3, 191);
        for (int n : new int[] {0, -1, 201, Integer.MIN_VALUE, Integer.MAX_VALUE}) {
            marksDue(d, n, -1, -1, -1);
        }
        for (int what : new int[] {-1, 3, Integer.MIN_VALUE, Integer.MAX_VALUE}) {
            Desk.due("marks(1, " + what + ")", d.x.marks(1, what), -1);
        }
        marksDue(Desk.with("marks all;"), 200, 200, 1, 0);
        marksDue(Desk.with("marks line>199;"), 200, 1, 200, 199);
        marksDue(new Desk(), 200, 0, 0, 200);
        Desk far = ringAt(996, "marks r=3;");
        marksDue(far, 3, 1, 3, 2);
        marksDue(far, 4, -1, -1, -1);
        far.x.write(2);
        marksDue(far, 1, 1, 1, 0);
        far.x.write(1);
        marksDue(far, 1, -1, -1, -1);
    }

    private static void heal() {
        Desk.about = "promise 17: to HEAL for n LINES (1 .. 60); NONE when n can't be";
        Desk d = Desk.with("ring r of 9 at 0 by 1;");
        Desk.due("heal(1)", d.x.heal(1), 0);
        Desk.due("heal(60)", d.x.heal(60), 0);
        for (int n : new int[] {0, -1, 61, Integer.MIN_VALUE, Integer.MAX_VALUE}) {
            Desk.due("heal(" + n + ")", d.x.heal(n), -1);
        }
        d.x.put(0, 5);
        Desk.due("heal(1)", d.x.heal(1), 1);
        Desk.due("heal(60)", d.x.heal(60), 1);
        Desk.due("heal(61)", d.x.heal(61), -1);
        d.valuesDue(5);
        Desk.due("heal() without columns", new Desk().x.heal(60), 0);
        Desk far = Desk.with("ring r of 9 at 0 by 0;");
        far.onSealed(3, 229, 15, 66, 64, 0);
        Desk.due("heal(2) to LINE 999", far.x.heal(2), 0);
        Desk.due("heal(3) beyond LINE 999", far.x.heal(3), -1);
        far.onSealed(3, 231, 15, 66, 64, 0);
        Desk.due("heal(1) at LINE 999", far.x.heal(1), -1);
    }

    private static void healFewest() {
        Desk.about = "the fewest ZIGS, ARCS, RINGS which, set now to what is TRUE (and going that way)";
        Desk d = Desk.with("zig z from 0 to 9 by 1 at 5 up;arc a of 9 at 0 to 4 fast 1 slow 1;ring r of 9 at 0 by 1;"
                + "sum s is z+a+r;");
        d.x.put(0, 4);
        Desk.due("a zig", d.x.heal(9), 1);
        d.x.put(1, 4);
        Desk.due("a zig, an arc", d.x.heal(9), 3);
        d.x.put(2, 4);
        Desk.due("a zig, an arc, a ring", d.x.heal(9), 7);
        d.x.put(0, 5);
        Desk.due("an arc, a ring", d.x.heal(9), 6);
        d.x.turn(0);
        Desk.due("a zig that goes the other way", d.x.heal(1), 7);
        d.x.turn(0);
        d.x.put(1, 0);
        d.x.put(2, 0);
        Desk.due("none", d.x.heal(9), 0);
        d.x.put(0, 4);
        d.x.turn(0);
        Desk.due("set and going that way", d.x.heal(60), 1);
        // two wrongs that make a ring right need both to be set, or none
        Desk.about = "the fewest: those that are as they should be by themselves are not set";
        Desk back = Desk.with("ring r of 9 at 0 by 0-prev;ring q of 9 at 0 by 0;");
        back.x.put(0, 5);
        Desk.due("has(3)", back.x.has(3), 1);
        Desk.due("a ring that comes back by itself", back.x.heal(60), 0);
        back.x.put(1, 5);
        Desk.due("and one that does not", back.x.heal(60), 2);
        Desk.about = "a SUM can't be set: NONE without a set";
        Desk sum = Desk.with("ring r of 9 at 0 by 0;sum s is prev+r;");
        sum.x.put(0, 1);
        Desk.due("the sum is true yet", sum.x.heal(60), 1);
        sum.x.write(1);
        Desk.due("the sum is not", sum.x.heal(1), -1);
        sum.x.put(0, 0);
        Desk.due("nor now", sum.x.heal(1), -1);
    }

    private static void healLines() {
        Desk.about = "all COLUMNS be TRUE in each of the next n LINES";
        // a ring that forgets: what it tells is the line alone, from the second line on
        Desk forgets = Desk.with("ring q of 9 at 0 by min(line,2)/2*(0-prev);");
        forgets.x.put(0, 4);
        Desk.due("not true in the next line", forgets.x.heal(1), 1);
        forgets.x.write(1);
        Desk.due("not true now, but in the next lines", forgets.x.heal(60), 0);
        // true in the next line, but going the other way, so not in the one behind it
        Desk two = Desk.with("zig z from 3 to 9 by 2 at 8 up;"); // 8 8 6
        two.x.put(0, 6); // 6 8 8
        Desk.due("heal(1)", two.x.heal(1), 0);
        Desk.due("heal(2)", two.x.heal(2), 1);
        Desk.due("heal(60)", two.x.heal(60), 1);
        two.onSealed(3, 230, 15, 66, 70, 1); // 6 is TRUE in LINE 998, but goes down
        Desk.due("has(3)", two.x.has(3), 0);
        Desk.due("heal(1) of one that goes the other way", two.x.heal(1), 1);
        Desk.due("heal(2) beyond LINE 999", two.x.heal(2), -1);
        Desk edge = Desk.with("arc a of 20 at 0 to 10 fast 2 slow 1;");
        edge.x.put(0, 1);
        Desk.due("an arc untrue by one", edge.x.heal(1), 1);
        // 8 and 9 both come to 10 in the slow part: 9 + 2 is one beyond, half a slow step
        edge.x.undo();
        edge.x.write(4);
        edge.x.put(0, 9);
        Desk.due("has(3)", edge.x.has(3), 1);
        Desk.due("an arc that comes right by itself", edge.x.heal(60), 0);
        // a zig in the midst that turns in its place tells the same both ways
        Desk zig = Desk.with("zig z from 3 to 9 by 6 at 6 up;");
        zig.x.turn(0);
        Desk.due("a zig that tells the same both ways", zig.x.heal(60), 0);
    }

    private static void oddsDue(Desk d, int... want) {
        for (int c = 0; c < want.length; c++) {
            Desk.due("odds(" + (c - 1) + ")", d.x.odds(c - 1), want[c]);
        }
    }

    private static void odds() {
        Desk.about = "promise 18: all rows for NONE; NONE when there is none such, without COLUMNS, or at LINE 999";
        oddsDue(Desk.with("ring r of 9 at 0 by 1;"), 900, 900, -1);
        StringBuilder eight = new StringBuilder();
        for (char name = 'a'; name <= 'h'; name++) {
            eight.append("sum ").append(name).append(" is 1;");
        }
        oddsDue(Desk.with(eight.toString()), 7200, 7200, 7200, 7200, 7200, 7200, 7200, 7200, 7200, -1);
        oddsDue(new Desk(), -1, -1);
        oddsDue(Desk.with("slip 100;marks all;"), -1, -1);
        Desk d = ringAt(998, "slip 40;");
        for (int c : new int[] {-2, 1, 8, Integer.MIN_VALUE, Integer.MAX_VALUE}) {
            Desk.due("odds(" + c + ")", d.x.odds(c), -1);
        }
        Desk.due("odds(-1) at LINE 998", d.x.odds(-1), 900);
        d.x.write(1);
        oddsDue(d, -1, -1);
    }

    private static void oddsBySlips() {
        Desk.about = "ODDS: by how many of all rows of a number below 100, a COLUMN, a number below 9 it is TRUE";
        oddsDue(Desk.with("ring r of 10 at 0 by 1;slip 0;"), 900, 900);
        oddsDue(Desk.with("ring r of 10 at 0 by 1;slip 1;"), 900, 891);
        oddsDue(Desk.with("ring r of 10 at 0 by 1;slip 100;"), 900, 0);
        oddsDue(Desk.with("ring r of 9 at 0 by 1;slip 100;"), 900, 100); // by 9 all round
        oddsDue(Desk.with("ring r of 2 at 0 by 1;slip 100;"), 900, 400);
        oddsDue(Desk.with("ring r of 10 at 0 by 1;sum s is r;slip 100;"), 1800, 900, 1800);
        oddsDue(Desk.with("zig z from 5 to 13 by 1 at 7 up;slip 50;"), 900, 450 + 50);
        oddsDue(Desk.with("zig z from 5 to 14 by 1 at 7 up;slip 50;"), 900, 450);
        oddsDue(Desk.with("arc a of 4 at 0 to 2 fast 1 slow 1;slip 50;"), 900, 450 + 2 * 50);
        Desk.about = "ODDS of what is not true now";
        Desk d = Desk.with("ring r of 20 at 0 by 0;ring q of 20 at 0 by r;slip 30;");
        d.x.put(0, 11); // 9 on it is 0
        oddsDue(d, 1800, 30, 30);
        d.x.put(0, 10); // 10 on it would be
        oddsDue(d, 1800, 0, 0);
        d.x.put(0, 19);
        oddsDue(d, 1800, 30, 30); // q: 19, and 1 on
        d.x.put(0, 0);
        oddsDue(d, 1800, 1800 - 270, 1800 - 270);
        Desk sum = Desk.with("ring r of 20 at 0 by 0;sum s is r;slip 30;");
        sum.x.put(0, 19);
        oddsDue(sum, 1800, 30, 0);
    }

    private static int[] rows(int many) {
        int[] all = new int[4 * many];
        for (int i = 0; i < many; i++) {
            all[4 * i + 3] = 4;
        }
        return all;
    }

    private static void find() {
        Desk.about = "promise 19: 1 to 12 rows of four bytes (the value in two, the higher first): how many rows";
        Desk d = Desk.with("zig z from 3 to 9 by 3 at 6 up;ring r of 999 at 4 by 1;arc a of 300 at 4 to 2 fast 1 slow 1;"
                + "sum s is 4;");
        Desk.due("find() of one", d.find(0, 1, 0, 4), 1);
        Desk.due("has(5)", d.x.has(5), 1);
        Desk.due("find() of twelve", d.find(rows(12)), 12);
        Desk.due("has(5)", d.x.has(5), 12);
        Desk.due("find() 0 lines down", d.find(0, 0, 0, 3), 1);
        Desk.due("find() 30 lines down", d.find(30, 0, 0, 9), 1);
        Desk.due("find() of a ring's greatest", d.find(0, 1, 3, 230), 1);
        Desk.due("find() of a ring's least", d.find(0, 1, 0, 0), 1);
        Desk.due("find() of an arc's greatest", d.find(0, 2, 1, 43), 1);
        Desk.due("find() of an arc's least", d.find(0, 2, 0, 0), 1);
        Desk.due("find() of one row twice", d.find(0, 1, 0, 4, 0, 1, 0, 4), 2);
        Desk.due("find() of what can't be together", d.find(0, 1, 0, 4, 0, 1, 0, 5), 2);
        d.statusDue(1, 0);
        Desk.due("the tape is gone", d.x.end(1), false);
    }

    private static void findRefused() {
        Desk.about = "promise 19: NONE, refused (1), all staying, when it is none such";
        Desk d = Desk.with("zig z from 3 to 9 by 3 at 6 up;ring r of 999 at 4 by 1;arc a of 300 at 4 to 2 fast 1 slow 1;"
                + "sum s is 4;");
        d.find(1, 1, 0, 104);
        int[][] no = {{}, {0}, {0, 1, 0}, {0, 1, 0, 4, 0}, {0, 1, 0, 4, 0, 1, 0}, rows(13),
            {31, 1, 0, 4}, {255, 1, 0, 4}, {0, 3, 0, 0}, {0, 3, 0, 4}, {0, 4, 0, 4}, {0, 8, 0, 4}, {0, 255, 0, 4},
            {0, 0, 0, 2}, {0, 0, 0, 10}, {0, 0, 1, 6}, {0, 1, 3, 231}, {0, 1, 255, 255}, {0, 2, 1, 44},
            {0, 1, 0, 4, 31, 1, 0, 4}, {0, 1, 0, 4, 0, 3, 0, 4}, {0, 1, 0, 4, 0, 0, 0, 2}};
        int refused = 0;
        for (int[] bytes : no) {
            Desk.due("find() of " + java.util.Arrays.toString(bytes), d.find(bytes), -1);
            refused++;
            d.statusDue(1, refused);
            Desk.due("has(5)", d.x.has(5), 1);
            Desk.due("fits(0)", d.x.fits(0), 99);
            Desk.due("the tape is gone", d.x.end(1), false);
        }
        Desk.due("find() without columns", new Desk().find(0, 0, 0, 0), -1);
    }

    private static void fits() {
        Desk.about = "promise 20: how many (k NONE), the k-th, rising; all 400, if nothing is FOUND";
        Desk d = Desk.with("ring r of 200 at 0 by 1;");
        Desk.due("fits(-1)", d.x.fits(-1), 400);
        for (int k : new int[] {0, 1, 398, 399}) {
            Desk.due("fits(" + k + ")", d.x.fits(k), k);
        }
        for (int k : new int[] {-2, 400, Integer.MIN_VALUE, Integer.MAX_VALUE}) {
            Desk.due("fits(" + k + ")", d.x.fits(k), -1);
        }
        Desk.due("fits(-1) without columns", new Desk().x.fits(-1), 400);
        Desk.due("fits(399) without columns", new Desk().x.fits(399), 399);
        d.find(0, 0, 0, 199);
        d.numbersDue("fits", d.x::fits, 199, 399);
        d.find(0, 0, 0, 0);
        d.numbersDue("fits", d.x::fits, 0, 200);
        d.find(0, 0, 0, 0, 1, 0, 0, 2);
        d.numbersDue("fits", d.x::fits);
        Desk.about = "the piece FITS at a LINE, if TRUE is just that so many LINES below it";
        Desk acts = Desk.with("ring r of 200 at 0 by 1;slip 100;");
        acts.x.put(0, 50);
        acts.x.chance(9);
        acts.find(5, 0, 0, 25, 6, 0, 0, 26);
        acts.numbersDue("fits", acts.x::fits, 20, 220);
        acts.tell("ring r of 400 at 0 by 1;");
        Desk.due("nothing is FOUND behind a tablet", acts.x.fits(-1), 400);
    }

    private static void fitsAtTheLastLines() {
        Desk.about = "the piece FITS at a LINE (0 .. 399), 0 .. 30 lines down";
        Desk d = Desk.with("ring r of 999 at 0 by 1;");
        d.find(0, 0, 1, 143);
        d.numbersDue("fits of 399", d.x::fits, 399);
        d.find(0, 0, 1, 144);
        d.numbersDue("fits of 400", d.x::fits);
        d.find(30, 0, 1, 173);
        d.numbersDue("fits of 429, 30 down", d.x::fits, 399);
        d.find(30, 0, 1, 174);
        d.numbersDue("fits of 430, 30 down", d.x::fits);
        d.find(30, 0, 0, 30);
        d.numbersDue("fits of 30, 30 down", d.x::fits, 0);
        d.find(30, 0, 0, 29);
        d.numbersDue("fits of 29, 30 down", d.x::fits);
        d.onSealed(3, 231, 15, 66, 64, 0);
        d.find(30, 0, 1, 173);
        d.numbersDue("fits at LINE 999", d.x::fits, 399);
    }

    private static void differencesDue(Desk d, int column, int... want) {
        IntUnaryOperator asked = k -> d.x.differences(column, k);
        d.numbersDue("differences(" + column + ")", asked, want);
    }

    private static void differences() {
        Desk.about = "DIFFERENCES of a ZIG are those (1 .. how far its bounds are apart)";
        differencesDue(Desk.with("zig z from 5 to 6 by 1 at 5 up;"), 0, 1);
        differencesDue(Desk.with("zig z from 5 to 8 by 1 at 5 up;"), 0, 1, 2, 3);
        Desk wide = Desk.with("zig z from 0 to 999 by 5 at 0 up;");
        Desk.due("differences(0, -1)", wide.x.differences(0, -1), 999);
        Desk.due("differences(0, 0)", wide.x.differences(0, 0), 1);
        Desk.due("differences(0, 998)", wide.x.differences(0, 998), 999);
        Desk.due("differences(0, 999)", wide.x.differences(0, 999), -1);
        wide.find(1, 0, 3, 231);
        differencesDue(wide, 0, 999);
        wide.find(1, 0, 0, 1);
        differencesDue(wide, 0, 1);
        Desk.about = "promise 21: NONE when there is none such, or it is none of a ZIG";
        Desk d = Desk.with("arc a of 4 at 0 to 2 fast 1 slow 1;ring r of 4 at 0 by 1;sum s is 1;zig z from 0 to 2 by 1 at 0 up;");
        for (int c : new int[] {0, 1, 2, 4, -1, 8, Integer.MIN_VALUE, Integer.MAX_VALUE}) {
            Desk.due("differences(" + c + ", -1)", d.x.differences(c, -1), -1);
            Desk.due("differences(" + c + ", 0)", d.x.differences(c, 0), -1);
        }
        differencesDue(d, 3, 1, 2);
        Desk.due("differences(3, MIN)", d.x.differences(3, Integer.MIN_VALUE), -1);
        Desk.due("differences(3, MAX)", d.x.differences(3, Integer.MAX_VALUE), -1);
    }

    private static void differencesByThePiece() {
        Desk.about = "DIFFERENCES: with which the piece would fit at LINE 0";
        Desk d = Desk.with("zig z from 3 to 9 by 1 at 6 up;ring r of 9 at 0 by 1;");
        d.find(0, 0, 0, 6);
        differencesDue(d, 0, 1, 2, 3, 4, 5, 6);
        d.find(0, 0, 0, 7);
        differencesDue(d, 0);
        d.find(1, 0, 0, 8);
        differencesDue(d, 0, 2, 4); // 10 is one beyond 9
        d.find(1, 0, 0, 8, 2, 0, 0, 4);
        differencesDue(d, 0, 4); // 8, then 4
        d.find(1, 0, 0, 9);
        differencesDue(d, 0, 3);
        d.find(1, 0, 0, 6);
        differencesDue(d, 0, 6);
        d.find(30, 0, 0, 6);
        Desk.due("differences 30 lines down", d.x.differences(0, -1) > 0, true);
        d.x.put(0, 9);
        d.x.turn(0);
        d.find(1, 0, 0, 9);
        differencesDue(d, 0, 3);
        d.find(1, 1, 0, 1);
        differencesDue(d, 0, 1, 2, 3, 4, 5, 6);
        d.find(1, 1, 0, 2);
        differencesDue(d, 0);
        Desk deep = Desk.with("zig z from 0 to 999 by 1 at 0 up;");
        deep.find(30, 0, 3, 192, 0, 0, 0, 0);
        Desk.due("30 lines by 32: 960", deep.x.differences(0, 0), 32);
    }

    private static void tellsDue(Desk d, int... want) {
        for (int what = 0; what < 3; what++) {
            Desk.due("tells(" + what + ")", d.x.tells(what), want[what]);
        }
        for (int what : new int[] {-1, 3, Integer.MIN_VALUE, Integer.MAX_VALUE}) {
            Desk.due("tells(" + what + ")", d.x.tells(what), -1);
        }
    }

    private static void tells() {
        Desk.about = "promise 22: NONE without LINES, without ZIGS, ARCS, RINGS, or for others";
        tellsDue(new Desk(), -1, -1, -1);
        tellsDue(Desk.with("sum s is line;sum t is s;"), -1, -1, -1);
        Desk d = Desk.with("ring r of 400 at 0 by 1;");
        tellsDue(d, 0, 0, 1);
        d.find(0, 0, 0, 0, 0, 0, 0, 1);
        tellsDue(d, -1, -1, -1);
        d.find(0, 0, 0, 0);
        tellsDue(d, 0, 0, 1);
        tellsDue(Desk.with("zig z from 0 to 1 by 1 at 0 down;"), 0, 0, 200);
        tellsDue(Desk.with("arc a of 4 at 0 to 2 fast 1 slow 1;"), 0, 0, 100);
        tellsDue(Desk.with("sum s is line;ring r of 999 at 0 by 0;"), 0, 1, 400);
        tellsDue(Desk.with("ring r of 399 at 0 by 1;"), 0, 0, 2);
        tellsDue(Desk.with("ring r of 999 at 998 by 1;"), 0, 0, 1);
    }

    private static void tellsFirstOfLikeOnes() {
        Desk.about = "TELLING: of like ones the first, LINE by LINE, COLUMN by COLUMN";
        tellsDue(Desk.with("ring q of 9 at 0 by 0;ring r of 4 at 0 by 1;ring s of 4 at 2 by 1;"), 0, 1, 100);
        // p and q: both rest at first; the farther down, the more lines have begun to go
        String rests = "ring p of 999 at 0 by max(0,min(1,line-399));ring q of 999 at 0 by max(0,min(1,line-399));";
        tellsDue(Desk.with(rests), 30, 0, 370);
        tellsDue(Desk.with("sum s is line;" + rests), 30, 1, 370);
        tellsDue(Desk.with(rests.replace("399", "428")), 30, 0, 399);
        tellsDue(Desk.with(rests.replace("399", "429")), 0, 0, 400);
        // a later line is not better, if it is only like
        tellsDue(Desk.with("ring p of 2 at 0 by 1;ring q of 2 at 0 by 1;"), 0, 0, 200);
        // p tells 50 in LINE 0 alone, and each value behind it twice
        tellsDue(Desk.with("ring p of 999 at 50 by (line+1)/2-line/2;ring q of 999 at 0 by 1;"), 0, 1, 1);
        // a later column in an earlier line stands ahead of an earlier column in a later line
        tellsDue(Desk.with("ring p of 999 at 0 by max(0,min(1,line-2));ring q of 999 at 0 by max(0,min(1,line-1));"),
                1, 1, 1);
        tellsDue(Desk.with("ring p of 999 at 0 by max(0,min(1,line-2));ring q of 999 at 0 by max(0,min(1,line-2));"),
                2, 0, 1);
    }
}
