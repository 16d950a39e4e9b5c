/** Lines as they come, ahead, true, by acts (promises 9 to 18 and 23 to 28). */
public final class LinesTest {
    private static final String FOUR = "zig z from 2 to 10 by 3 at 4 up;arc a of 10 at 0 to 5 fast 3 slow 2;"
            + "ring r of 7 at 2 by 0-3;sum s is prev+r;";

    public static void main(String[] args) {
        zigs();
        arcs();
        ringsAndSums();
        values();
        bounds();
        periods();
        whenAndMeet();
        marks();
        heal();
        odds();
        write();
        kept();
        putAndTurn();
        chance();
        undo();
        lastLines();
        eightColumns();
        Desk.finish();
    }

    private static void zigs() {
        Desk.about = "promise 11, zigs";
        Desk.with("zig z from 2 to 10 by 3 at 4 up;").laterDue(0, 4, 7, 10, 7, 4, 3, 6, 9, 8, 5, 2, 5, 8, 9, 6, 3, 4, 7);
        Desk.with("zig z from 2 to 10 by 3 at 4 down;").laterDue(0, 4, 3, 6, 9, 8, 5, 2, 5);
        Desk.with("zig z from 0 to 4 by 4 at 4 up;").laterDue(0, 4, 0, 4, 0);
        Desk.with("zig z from 0 to 4 by 4 at 2 up;").laterDue(0, 2, 2, 2);
        Desk.with("zig z from 0 to 1 by 1 at 0 down;").laterDue(0, 0, 1, 0, 1);
        Desk.with("zig z from 5 to 9 by 1 at 8 up;").laterDue(0, 8, 9, 8, 7, 6, 5, 6);
    }

    private static void arcs() {
        Desk.about = "promise 11, arcs";
        Desk.with("arc a of 10 at 0 to 5 fast 3 slow 2;").laterDue(0, 0, 3, 5, 7, 9, 1, 4, 6, 8, 0, 3);
        Desk.with("arc a of 20 at 0 to 8 fast 4 slow 3;").laterDue(0, 0, 4, 8, 11, 14, 17, 0);
        Desk.with("arc a of 20 at 1 to 8 fast 4 slow 3;").laterDue(0, 1, 5, 8, 11);
        Desk.with("arc a of 20 at 3 to 8 fast 4 slow 3;").laterDue(0, 3, 7, 10);
        Desk.with("arc a of 20 at 19 to 8 fast 4 slow 3;").laterDue(0, 19, 2, 6);
        Desk.with("arc a of 20 at 18 to 8 fast 4 slow 3;").laterDue(0, 18, 1);
        Desk.with("arc a of 9 at 0 to 4 fast 2 slow 5;").laterDue(0, 0, 2, 4, 0);
        Desk.with("arc a of 9 at 3 to 4 fast 2 slow 5;").laterDue(0, 3, 6, 0);
        Desk.with("arc a of 9 at 8 to 4 fast 2 slow 5;").laterDue(0, 8, 1);
        Desk d = Desk.with(FOUR);
        Desk.due("later(4, 0)", d.x.later(4, 0), ZigzagTablets.NOTHING);
        Desk.due("later(-1, 0)", d.x.later(-1, 0), ZigzagTablets.NOTHING);
        Desk.due("later(0, -1)", d.x.later(0, -1), ZigzagTablets.NOTHING);
        Desk.due("later(0, 201)", d.x.later(0, 201), ZigzagTablets.NOTHING);
        Desk.due("later(0, 200)", d.x.later(0, 200), 8);
        Desk.due("later(0, MAX)", d.x.later(0, Integer.MAX_VALUE), ZigzagTablets.NOTHING);
    }

    private static void ringsAndSums() {
        Desk.about = "promise 11, rings and sums";
        Desk.with("ring r of 7 at 2 by 0-3;").laterDue(0, 2, 6, 3, 0, 4, 1, 5, 2);
        Desk.with("ring r of 7 at 5 by 10;").laterDue(0, 5, 1, 4);
        Desk.with("ring r of 7 at 5 by line*100;").laterDue(0, 5, 0, 4);
        Desk.with("ring r of 7 at 5 by 0-9999*9999;").laterDue(0, 5, 4);
        Desk.with("ring r of 9 at 2 by prev;").laterDue(0, 2, 4, 8, 7, 5, 1, 2);
        Desk.with("sum s is prev+2;").laterDue(0, 2, 4, 6);
        Desk.with("sum s is line;").laterDue(0, 0, 1, 2);
        Desk ahead = Desk.with("ring r of 9 at 1 by 1;ring q of 9 at 1 by r;sum s is q*10+r;");
        ahead.laterDue(1, 1, 3, 6, 1);
        ahead.laterDue(2, 11, 32, 63, 14);
        ahead.x.put(0, 5);
        Desk.due("the rest of the line stays", ahead.x.value(2, 0), 11);
        ahead.laterDue(1, 1, 7, 5);
        Desk sum = Desk.with("ring r of 9 at 1 by 0;sum s is prev*2+r;");
        sum.laterDue(1, 1, 3, 7, 15);
    }

    private static void values() {
        Desk.about = "promise 9";
        Desk d = Desk.with(FOUR);
        d.x.write(2); // 10 5 3 11
        d.x.put(2, 0);
        d.x.put(0, 5);
        long[] now = {5, 5, 0, 11};
        long[] due = {10, 5, 3, 11};
        for (int c = 0; c < 4; c++) {
            Desk.due("value(" + c + ", 0)", d.x.value(c, 0), now[c]);
            Desk.due("value(" + c + ", 1)", d.x.value(c, 1), due[c]);
            Desk.due("value(" + c + ", 2)", d.x.value(c, 2), ZigzagTablets.NOTHING);
            Desk.due("value(" + c + ", -1)", d.x.value(c, -1), ZigzagTablets.NOTHING);
        }
        Desk.due("value(4, 0)", d.x.value(4, 0), ZigzagTablets.NOTHING);
        Desk.due("value(-1, 1)", d.x.value(-1, 1), ZigzagTablets.NOTHING);
        d.x.write(1);
        Desk.due("value(3, 0)", d.x.value(3, 0), 15);
        Desk.due("value(3, 1)", d.x.value(3, 1), 11);
    }

    private static void boundsDue(Desk d, int column, int n, long... want) {
        for (int what = 0; what < 4; what++) {
            Desk.due("bounds(" + column + ", " + n + ", " + what + ")", d.x.bounds(column, n, what), want[what]);
        }
    }

    private static void bounds() {
        Desk.about = "promise 12";
        long no = ZigzagTablets.NOTHING;
        Desk d = Desk.with(FOUR); // z 4 7 10 7 4 3 6 9 8 5 2 .. s 2 8 11 11 15 16 21
        boundsDue(d, 0, 0, 4, 0, 4, 0);
        boundsDue(d, 0, 4, 10, 2, 4, 0);
        boundsDue(d, 0, 5, 10, 2, 3, 5);
        boundsDue(d, 0, 200, 10, 2, 2, 10);
        boundsDue(d, 3, 3, 11, 2, 2, 0);
        boundsDue(d, 0, 201, no, no, no, no);
        boundsDue(d, 0, -1, no, no, no, no);
        boundsDue(d, 4, 1, no, no, no, no);
        boundsDue(d, -1, 1, no, no, no, no);
        Desk.due("bounds(0, 1, 4)", d.x.bounds(0, 1, 4), no);
        Desk.due("bounds(0, 1, -1)", d.x.bounds(0, 1, -1), no);
    }

    private static void periodDue(String text, int want) {
        Desk.due("period(0) of " + text, Desk.with(text).x.period(0), want);
    }

    private static void periods() {
        Desk.about = "promise 13";
        periodDue("zig z from 2 to 10 by 3 at 4 up;", 16);
        periodDue("zig z from 2 to 10 by 4 at 4 up;", 4);
        periodDue("zig z from 0 to 4 by 4 at 0 down;", 2);
        periodDue("zig z from 0 to 4 by 4 at 0 up;", -1);
        periodDue("zig z from 0 to 4 by 4 at 2 up;", 2);
        periodDue("zig z from 0 to 499 by 1 at 7 up;", 998);
        periodDue("zig z from 0 to 500 by 1 at 7 up;", -1);
        periodDue("arc a of 10 at 0 to 5 fast 3 slow 2;", 9);
        periodDue("arc a of 20 at 1 to 8 fast 4 slow 3;", -1);
        periodDue("arc a of 999 at 998 to 500 fast 1 slow 1;", 999);
        periodDue("ring r of 2 at 0 by 1;", -1);
        periodDue("sum s is 1;", -1);
        Desk d = Desk.with(FOUR);
        Desk.due("period(4)", d.x.period(4), -1);
        Desk.due("period(-1)", d.x.period(-1), -1);
        d.onSealed(3, 231, 15, 66, 68, 1, 15, 66, 64, 0, 15, 66, 64, 0, 15, 66, 64, 0);
        Desk.due("period(0) at line 999", d.x.period(0), 16);
    }

    private static void whenAndMeet() {
        Desk.about = "promises 14 and 15";
        Desk d = Desk.with(FOUR);
        Desk.due("when(0, 4)", d.x.when(0, 4), 0);
        Desk.due("when(0, 7)", d.x.when(0, 7), 1);
        Desk.due("when(0, 2)", d.x.when(0, 2), 10);
        Desk.due("when(0, 11)", d.x.when(0, 11), -1);
        Desk.due("when(4, 0)", d.x.when(4, 0), -1);
        Desk.due("when(-1, 0)", d.x.when(-1, 0), -1);
        Desk far = Desk.with("sum s is line;sum t is 200;sum u is 201;sum v is 0-line;");
        Desk.due("when(0, 200)", far.x.when(0, 200), 200);
        Desk.due("when(0, 201)", far.x.when(0, 201), -1);
        Desk.due("when(3, -5)", far.x.when(3, -5), 5);
        Desk.due("meet(0, 1)", far.x.meet(0, 1), 200);
        Desk.due("meet(1, 0)", far.x.meet(1, 0), 200);
        Desk.due("meet(0, 2)", far.x.meet(0, 2), -1);
        Desk.due("meet(0, 3)", far.x.meet(0, 3), 0);
        Desk.due("meet(0, 0)", far.x.meet(0, 0), -1);
        Desk.due("meet(0, 4)", far.x.meet(0, 4), -1);
        Desk.due("meet(-1, 0)", far.x.meet(-1, 0), -1);
        Desk.due("meet(4, 4)", far.x.meet(4, 4), -1);
        Desk.due("meet(0, 2) of z a r s", d.x.meet(0, 2), 4);
    }

    private static void marksDue(Desk d, int n, int... want) {
        for (int what = 0; what < 3; what++) {
            Desk.due("marks(" + n + ", " + what + ")", d.x.marks(n, what), want[what]);
        }
    }

    private static void marks() {
        Desk.about = "promise 16";
        Desk d = Desk.with("ring r of 5 at 3 by 1;marks r=3 or r=1;"); // 3 4 0 1 2 3 4 0 1
        marksDue(d, 1, 0, 0, 1);
        marksDue(d, 2, 0, 0, 2);
        marksDue(d, 3, 1, 3, 2);
        marksDue(d, 5, 2, 3, 2);
        marksDue(d, 200, 80, 3, 2);
        marksDue(d, 0, -1, -1, -1);
        marksDue(d, 201, -1, -1, -1);
        marksDue(d, -1, -1, -1, -1);
        Desk.due("marks(1, 3)", d.x.marks(1, 3), -1);
        Desk.due("marks(1, -1)", d.x.marks(1, -1), -1);
        marksDue(Desk.with("ring r of 5 at 3 by 1;"), 9, 0, 0, 9);
        marksDue(Desk.with("marks line>3;"), 5, 2, 4, 3);
        marksDue(Desk.with("marks line<3;"), 9, 2, 1, 7);
        marksDue(Desk.with("marks all;"), 9, 9, 1, 0);
    }

    private static void heal() {
        Desk.about = "promise 17";
        Desk d = Desk.with("zig z from 0 to 9 by 2 at 3 up;ring r of 7 at 5 by 3;ring q of 7 at 5 by z;");
        Desk.due("heal(60)", d.x.heal(60), 0);
        d.x.put(1, 0);
        Desk.due("heal(1) of r", d.x.heal(1), 2);
        d.x.turn(0);
        Desk.due("heal(1) of a zig that goes the other way", d.x.heal(1), 3);
        d.x.put(1, 5);
        Desk.due("heal(1)", d.x.heal(1), 1);
        d.x.put(2, 6);
        Desk.due("heal(1)", d.x.heal(1), 5);
        int[] no = {0, -1, 61, Integer.MAX_VALUE};
        for (int n : no) {
            Desk.due("heal(" + n + ")", d.x.heal(n), -1);
        }
        // z untrue makes q of the next line true by itself, if q is as far off the other way
        Desk e = Desk.with("ring z of 5 at 0 by 0;ring q of 5 at 0 by z;sum s is 1;");
        e.x.put(0, 1);
        e.x.put(1, 4);
        Desk.due("heal(1) asks for z", e.x.heal(1), 3);
        // a sum that is untrue and tells on by itself can't be healed
        Desk f = Desk.with("ring z of 5 at 0 by 0;sum s is prev+z;");
        f.x.put(0, 1);
        Desk.due("heal(3)", f.x.heal(3), 1);
        f.x.write(1);
        Desk.due("heal(3) when the sum is untrue", f.x.heal(3), -1);
        f.x.write(100);
        Desk.due("heal(1) when the sum is untrue", f.x.heal(1), -1);
        // what is not true now needs no healing, if it comes true by itself
        Desk g = Desk.with("ring z of 9 at 0 by 0-prev;");
        g.x.put(0, 4);
        Desk.due("has(3)", g.x.has(3), 1);
        Desk.due("heal(9)", g.x.heal(9), 0);
        Desk h = Desk.with("ring a of 5 at 1 by 0;ring b of 5 at 1 by 0;zig c from 0 to 4 by 4 at 2 up;");
        h.x.turn(2);
        Desk.due("a zig in the midst that goes there and back", h.x.heal(20), 0);
        h.x.put(1, 2);
        Desk.due("heal(20)", h.x.heal(20), 2);
    }

    private static void oddsDue(Desk d, int... want) {
        for (int c = 0; c < want.length; c++) {
            Desk.due("odds(" + (c - 1) + ")", d.x.odds(c - 1), want[c]);
        }
    }

    private static void odds() {
        Desk.about = "promise 18";
        Desk d = Desk.with("zig z from 0 to 4 by 4 at 0 down;arc a of 20 at 0 to 8 fast 4 slow 3;"
                + "ring r of 2 at 0 by 1;sum s is r;slip 40;");
        // all 3600; z comes round by 5, r by 2 4 6 8
        oddsDue(d, 3600, 3600 - 40 * 8, 3600 - 40 * 9, 3600 - 40 * 5, 3600, -1);
        Desk.due("odds(-2)", d.x.odds(-2), -1);
        d.x.put(2, 1);
        d.x.put(1, 3);
        // a: 3 7 where 0 4 is due: only a slip of 17 would do; r: slips by 1 3 5 7 9
        oddsDue(d, 3600, 3280, 0, 40 * 5, 0);
        d.x.put(1, 0);
        d.x.put(1, 19);
        // a: 19 2 where 4 is due: a slip by 2
        oddsDue(d, 3600, 3280, 40);
        oddsDue(Desk.with("ring r of 9 at 0 by 1;"), 900, 900);
        oddsDue(Desk.with("ring r of 9 at 0 by 1;slip 100;"), 900, 100);
        oddsDue(Desk.with("ring r of 10 at 0 by 1;slip 100;"), 900, 0);
        oddsDue(Desk.with("slip 100;"), -1, -1);
    }

    private static void write() {
        Desk.about = "promise 23";
        Desk d = Desk.with("ring r of 5 at 3 by 1;marks r=3 or r=1;");
        Desk.due("write(1)", d.x.write(1), 0);
        Desk.due("write(2)", d.x.write(2), 1);
        Desk.due("write(100)", d.x.write(100), 40);
        Desk.due("has(1)", d.x.has(1), 103);
        Desk.due("has(6)", d.x.has(6), 3);
        int[] no = {0, 101, -1, Integer.MAX_VALUE, Integer.MIN_VALUE};
        for (int n : no) {
            Desk.due("write(" + n + ")", d.x.write(n), -1);
        }
        Desk.due("status(3)", d.x.status(3), 5);
        Desk.due("has(1)", d.x.has(1), 103);
        Desk.due("value(0, 0)", d.x.value(0, 0), 1);
    }

    private static void keptDue(Desk d, int k, int line, int untrue) {
        Desk.due("kept(" + k + ", 0)", d.x.kept(k, 0), line);
        Desk.due("kept(" + k + ", 1)", d.x.kept(k, 1), untrue);
    }

    private static void kept() {
        Desk.about = "promise 10";
        Desk d = Desk.with("ring r of 9 at 0 by 1;ring q of 9 at 0 by 1;marks line*7/2>3;");
        d.x.write(1);
        d.x.write(2);
        d.x.put(0, 8);
        d.x.write(1);
        Desk.due("has(4)", d.x.has(4), 3);
        keptDue(d, 0, 2, 0);
        keptDue(d, 1, 3, 0);
        keptDue(d, 2, 4, 1);
        keptDue(d, 3, -1, -1);
        keptDue(d, -1, -1, -1);
        Desk.due("kept(0, 2)", d.x.kept(0, 2), -1);
        Desk.due("kept(0, -1)", d.x.kept(0, -1), -1);
        d.x.write(37);
        Desk.due("has(4)", d.x.has(4), 40);
        keptDue(d, 0, 2, 0);
        d.x.write(5);
        Desk.due("has(4)", d.x.has(4), 40);
        keptDue(d, 0, 7, 1);
        keptDue(d, 39, 46, 1);
        keptDue(d, 40, -1, -1);
        d.x.undo();
        keptDue(d, 0, 2, 0);
        keptDue(d, 39, 41, 1);
    }

    private static void putAndTurn() {
        Desk.about = "promises 24 and 25";
        Desk d = Desk.with(FOUR);
        Desk.due("put(0, 4)", d.x.put(0, 4), false);
        Desk.due("put(0, 1)", d.x.put(0, 1), false);
        Desk.due("put(0, 11)", d.x.put(0, 11), false);
        Desk.due("put(1, 10)", d.x.put(1, 10), false);
        Desk.due("put(2, -1)", d.x.put(2, -1), false);
        Desk.due("put(3, 0)", d.x.put(3, 0), false);
        Desk.due("put(4, 0)", d.x.put(4, 0), false);
        Desk.due("put(-1, 0)", d.x.put(-1, 0), false);
        Desk.due("turn(1)", d.x.turn(1), false);
        Desk.due("turn(3)", d.x.turn(3), false);
        Desk.due("turn(4)", d.x.turn(4), false);
        Desk.due("turn(-1)", d.x.turn(-1), false);
        Desk.due("status(2)", d.x.status(2), 12);
        Desk.due("has(6)", d.x.has(6), 0);
        Desk.due("put(0, 2)", d.x.put(0, 2), true);
        Desk.due("put(0, 10)", d.x.put(0, 10), true);
        Desk.due("put(1, 9)", d.x.put(1, 9), true);
        Desk.due("put(2, 0)", d.x.put(2, 0), true);
        Desk.due("turn(0)", d.x.turn(0), true);
        Desk.due("has(6)", d.x.has(6), 5);
        Desk.due("value(3, 0)", d.x.value(3, 0), 2);
        d.laterDue(0, 10, 7, 4);
        d.laterDue(1, 9, 1, 4);
        d.laterDue(2, 0, 4, 1);
        d.laterDue(3, 2, 6, 7);
        Desk.due("turn(0)", d.x.turn(0), true);
        d.laterDue(0, 10, 7, 4);
        Desk.due("column(0, 1)", d.x.column(0, 1), 1);
    }

    private static void chance() {
        Desk.about = "promise 26";
        // draws by seed 1: 18 of 100, of one column, 2 of 9: 3; 80, -, 3: 4; 68, -, 0: 1
        Desk d = Desk.with("ring r of 100 at 0 by 0;slip 100;marks r=3 or r=8;");
        Desk.due("chance(1)", d.x.chance(1), 1);
        Desk.due("value(0, 0)", d.x.value(0, 0), 3);
        Desk.due("chance(2)", d.x.chance(2), 2);
        Desk.due("value(0, 0)", d.x.value(0, 0), 3 + 4 + 1);
        Desk.due("has(1)", d.x.has(1), 3);
        Desk.due("has(6)", d.x.has(6), 2);
        Desk.due("has(4): marked behind the slip", d.x.has(4), 2);
        keptDue(d, 0, 1, 1);
        keptDue(d, 1, 3, 1);
        // by seed 1: 18, column 1 of 2, -; 80; 16, column 0, 5 of 9: 6; 52; 41, column 1, -; 87
        Desk two = Desk.with("ring r of 100 at 0 by 0;sum s is r;slip 50;");
        Desk.due("chance(2)", two.x.chance(2), 0);
        Desk.due("chance(1)", two.x.chance(1), 1);
        Desk.due("value(0, 0)", two.x.value(0, 0), 6);
        Desk.due("value(1, 0) stays", two.x.value(1, 0), 0);
        Desk.due("chance(3)", two.x.chance(3), 0);
        Desk.due("value(1, 0)", two.x.value(1, 0), 6);
        // 18 is not below slip 18, but below 19
        Desk.due("slip 18", Desk.with("ring r of 9 at 0 by 0;slip 18;").x.chance(1), 0);
        Desk.due("slip 19", Desk.with("ring r of 9 at 0 by 0;slip 19;").x.chance(1), 1);
        // a draw of 100 comes without slips and without columns, too
        Desk none = Desk.with("slip 100;");
        none.x.chance(5);
        none.tell("ring r of 100 at 0 by 0;slip 15;");
        Desk.due("sixth draw is 14", none.x.chance(1), 1);
        Desk.due("value(0, 0)", none.x.value(0, 0), 7);
        // a zig goes on from its low bound beyond the high one, and its way stays
        Desk zig = Desk.with("zig z from 5 to 6 by 1 at 5 down;slip 100;");
        zig.x.chance(1);
        Desk.due("6, and 3 on", zig.x.value(0, 0), 5);
        Desk.due("column(0, 1)", zig.x.column(0, 1), 1);
        zig.laterDue(0, 5, 6, 5);
        Desk arc = Desk.with("arc a of 4 at 1 to 2 fast 1 slow 1;slip 100;");
        arc.x.chance(1);
        Desk.due("2, and 3 on", arc.x.value(0, 0), 1);
        int[] no = {0, 101, -1, Integer.MAX_VALUE};
        for (int n : no) {
            Desk.due("chance(" + n + ")", arc.x.chance(n), -1);
        }
        Desk.due("status(3)", arc.x.status(3), 4);
        Desk.about = "promise 28";
        Desk.due("seed(-1)", arc.x.seed(-1), false);
        Desk.due("status(5)", arc.x.status(5), 1);
        Desk seeded = Desk.with("ring r of 100 at 0 by 0;slip 100;");
        Desk.due("seed(MAX)", seeded.x.seed(Integer.MAX_VALUE), true);
        Desk.due("seed(0)", seeded.x.seed(0), true);
        Desk.due("chance(1)", seeded.x.chance(1), 1);
        Desk.due("by seed 0", seeded.x.value(0, 0), bySeed(0));
        seeded.x.seed(Integer.MAX_VALUE);
        seeded.x.undo();
        seeded.x.chance(1);
        Desk.due("by seed MAX", seeded.x.value(0, 0), bySeed(Integer.MAX_VALUE));
    }

    /** One more than the third draw, of 9. */
    private static int bySeed(int seed) {
        java.math.BigInteger x = java.math.BigInteger.valueOf(seed);
        for (int i = 0; i < 3; i++) {
            x = x.multiply(java.math.BigInteger.valueOf(1103515245)).add(java.math.BigInteger.valueOf(12345))
                    .mod(java.math.BigInteger.ONE.shiftLeft(31));
        }
        return x.shiftRight(6).mod(java.math.BigInteger.valueOf(9)).intValue() + 1;
    }

    private static void undo() {
        Desk.about = "promise 27";
        Desk d = Desk.with(FOUR + "marks all;slip 100;");
        Desk.due("undo()", d.x.undo(), false);
        d.x.write(2);
        d.x.put(0, 9);
        d.x.turn(0);
        d.x.chance(3);
        long third = d.x.later(0, 3);
        Desk.due("undo()", d.x.undo(), true);
        Desk.due("has(1)", d.x.has(1), 2);
        Desk.due("has(4)", d.x.has(4), 2);
        Desk.due("value(0, 0)", d.x.value(0, 0), 9);
        Desk.due("column(0, 1)", d.x.column(0, 1), 0);
        Desk.due("what was ahead is no more", d.x.later(0, 1), 6);
        Desk.due("undo()", d.x.undo(), true);
        Desk.due("column(0, 1)", d.x.column(0, 1), 1);
        Desk.due("undo()", d.x.undo(), true);
        Desk.due("value(0, 0)", d.x.value(0, 0), 10);
        Desk.due("undo()", d.x.undo(), true);
        Desk.due("has(1)", d.x.has(1), 0);
        Desk.due("has(4)", d.x.has(4), 0);
        Desk.due("undo()", d.x.undo(), false);
        Desk.due("status(4)", d.x.status(4), 2);
        Desk.due("third", third >= 2 && third <= 10, true);
        for (int i = 0; i < 30; i++) {
            d.x.write(1);
        }
        Desk.due("has(6)", d.x.has(6), 20);
        for (int i = 0; i < 20; i++) {
            Desk.due("undo()", d.x.undo(), true);
        }
        Desk.due("undo()", d.x.undo(), false);
        Desk.due("has(1)", d.x.has(1), 10);
        Desk.due("has(4)", d.x.has(4), 10);
        Desk stays = Desk.with("ring r of 100 at 0 by 0;slip 100;");
        stays.x.chance(1);
        stays.x.undo();
        stays.x.chance(1);
        Desk.due("the seed stays", stays.x.value(0, 0), 4);
    }

    private static void eightColumns() {
        Desk.about = "eight columns";
        StringBuilder text = new StringBuilder();
        for (char name = 'a'; name <= 'h'; name++) {
            text.append("zig ").append(name).append(" from 0 to 9 by 2 at ").append(name - 'a').append(" up;");
        }
        text.append("marks h=9 and line=1;slip 100;");
        Desk d = Desk.with(text.toString());
        Desk.due("has(0)", d.x.has(0), 8);
        Desk.due("write(1)", d.x.write(1), 1);
        for (int c = 0; c < 8; c++) {
            d.x.put(c, 0);
        }
        Desk.due("has(2)", d.x.has(2), 0);
        Desk.due("has(3)", d.x.has(3), 8);
        Desk.due("heal(60)", d.x.heal(60), 255);
        Desk.due("odds(-1)", d.x.odds(-1), 7200);
        Desk.due("image()", d.x.image(), 35);
        int[] image = new int[35];
        for (int k = 0; k < 35; k++) {
            image[k] = d.x.octet(k);
        }
        Desk.due("octet(35)", d.x.octet(35), -1);
        d.x.put(7, 9);
        Desk.due("has(2)", d.x.has(2), 1);
        Desk.due("on()", d.on(image), true);
        Desk.due("value(7, 0)", d.x.value(7, 0), 0);
        Desk.due("last", d.ask("last col number=0"), 7);
        Desk.due("find() in column 8", d.find(0, 8, 0, 0), -1);
        Desk.due("find() in column 7", d.find(1, 7, 0, 9), 1);
        Desk.due("fits(0)", d.x.fits(0), 0);
    }

    private static void lastLines() {
        Desk.about = "line 999";
        Desk d = Desk.with("ring r of 5 at 0 by 1;sum t is line;marks all;");
        for (int i = 0; i < 9; i++) {
            d.x.write(100);
        }
        Desk.due("write(100)", d.x.write(100), -1);
        Desk.due("write(95)", d.x.write(95), 95);
        Desk.due("later(0, 4)", d.x.later(0, 4), 4);
        Desk.due("later(0, 5)", d.x.later(0, 5), ZigzagTablets.NOTHING);
        boundsDue(d, 1, 4, 999, 4, 995, 0);
        Desk.due("bounds(1, 5, 0)", d.x.bounds(1, 5, 0), ZigzagTablets.NOTHING);
        Desk.due("when(1, 999)", d.x.when(1, 999), 4);
        Desk.due("when(1, 1000)", d.x.when(1, 1000), -1);
        Desk.due("marks(4, 0)", d.x.marks(4, 0), 4);
        Desk.due("marks(5, 0)", d.x.marks(5, 0), -1);
        Desk.due("heal(4)", d.x.heal(4), 0);
        Desk.due("heal(5)", d.x.heal(5), -1);
        Desk.due("chance(5)", d.x.chance(5), -1);
        Desk.due("odds(0)", d.x.odds(0), 1800);
        Desk.due("chance(4)", d.x.chance(4), 0);
        Desk.due("has(1)", d.x.has(1), 999);
        Desk.due("write(1)", d.x.write(1), -1);
        Desk.due("odds(0)", d.x.odds(0), -1);
        Desk.due("odds(-1)", d.x.odds(-1), -1);
        Desk.due("later(0, 0)", d.x.later(0, 0), 4);
        Desk.due("value(0, 1)", d.x.value(0, 1), 4);
        Desk.due("meet(0, 1)", d.x.meet(0, 1), -1);
        Desk.due("heal(1)", d.x.heal(1), -1);
        Desk.due("has(3)", d.x.has(3), 0);
        Desk.due("status(3)", d.x.status(3), 3);
        Desk.due("has(4)", d.x.has(4), 40);
        Desk.due("kept(39, 0)", d.x.kept(39, 0), 999);
    }
}
