/** Broken pieces (promises 19 to 22). */
public final class PiecesTest {
    private static final String ZIG = "zig z from 2 to 10 by 3 at 4 up;"; // 4 7 10 7 4 3 6 9 8 5 2 5 8 9 6 3, and again

    public static void main(String[] args) {
        find();
        fits();
        differences();
        tells();
        Desk.finish();
    }

    private static int[] rows(int many) {
        int[] all = new int[4 * many];
        for (int i = 0; i < many; i++) {
            all[4 * i + 3] = 4;
        }
        return all;
    }

    private static void find() {
        Desk.about = "promise 19";
        Desk d = Desk.with(ZIG + "arc a of 999 at 998 to 500 fast 1 slow 1;ring r of 300 at 0 by 1;sum s is 4;");
        Desk.due("find() of 12", d.find(rows(12)), 12);
        Desk.due("find() of 13", d.find(rows(13)), -1);
        Desk.due("has(5)", d.x.has(5), 12);
        Desk.due("find() of none", d.find(), -1);
        Desk.due("find() of five bytes", d.find(0, 0, 0, 4, 0), -1);
        Desk.due("find() of three bytes", d.find(0, 0, 0), -1);
        Desk.due("find() 31 lines down", d.find(31, 0, 0, 4), -1);
        Desk.due("find() of a sum", d.find(0, 3, 0, 4), -1);
        Desk.due("find() of no column", d.find(0, 4, 0, 0), -1);
        Desk.due("find() of no column", d.find(0, 255, 0, 4), -1);
        Desk.due("find() below a zig's bound", d.find(0, 0, 0, 1), -1);
        Desk.due("find() above a zig's bound", d.find(0, 0, 0, 11), -1);
        Desk.due("find() beyond an arc", d.find(0, 1, 3, 231), -1);
        Desk.due("find() beyond a ring", d.find(0, 2, 1, 44), -1);
        Desk.due("find(), one row bad", d.find(0, 0, 0, 4, 0, 0, 1, 4), -1);
        Desk.due("has(5) stays", d.x.has(5), 12);
        Desk.due("status(1)", d.x.status(1), 13);
        Desk.due("find() 30 lines down", d.find(30, 1, 3, 230, 0, 2, 1, 43), 2);
        Desk.due("has(5)", d.x.has(5), 2);
        Desk.due("fault(0) is not find's", d.x.fault(0), 0);
        Desk.due("the tape is gone", d.x.feed(0, 0, 0, 0, 0), 20);
    }

    private static void fits() {
        Desk.about = "promise 20";
        Desk d = Desk.with(ZIG + "ring r of 300 at 0 by 1;");
        Desk.due("fits(-1)", d.x.fits(-1), 400);
        Desk.due("fits(0)", d.x.fits(0), 0);
        Desk.due("fits(399)", d.x.fits(399), 399);
        Desk.due("fits(400)", d.x.fits(400), -1);
        d.find(0, 1, 0, 99);
        d.numbersDue("fits", d.x::fits, 99, 399);
        d.find(30, 1, 0, 129);
        d.numbersDue("fits", d.x::fits, 99, 399);
        d.find(0, 1, 0, 100);
        d.numbersDue("fits", d.x::fits, 100);
        d.find(0, 0, 0, 4, 1, 0, 0, 3);
        Desk.due("fits(-1)", d.x.fits(-1), 25);
        Desk.due("fits(0)", d.x.fits(0), 4);
        Desk.due("fits(1)", d.x.fits(1), 20);
        d.find(0, 0, 0, 4, 1, 0, 0, 4);
        d.numbersDue("fits", d.x::fits);
        d.find(0, 0, 0, 4, 0, 1, 0, 0);
        d.numbersDue("fits", d.x::fits, 0);
        d.find(0, 0, 0, 8, 0, 1, 0, 0);
        d.numbersDue("fits", d.x::fits, 300);
        d.x.put(0, 9);
        d.x.write(3);
        d.numbersDue("fits behind acts", d.x::fits, 300);
    }

    private static void differencesDue(Desk d, int column, int... want) {
        d.numbersDue("differences(" + column + ")", k -> d.x.differences(column, k), want);
    }

    private static void differences() {
        Desk.about = "promise 21";
        Desk d = Desk.with(ZIG + "ring r of 300 at 0 by z;sum s is 4;arc a of 9 at 1 to 5 fast 1 slow 1;");
        differencesDue(d, 0, 1, 2, 3, 4, 5, 6, 7, 8);
        d.find(1, 0, 0, 10);
        differencesDue(d, 0, 6);
        d.find(1, 0, 0, 9);
        differencesDue(d, 0, 5, 7); // 7: 11 is one beyond 10
        d.find(1, 0, 0, 9, 2, 0, 0, 2);
        differencesDue(d, 0, 7);
        d.find(1, 1, 0, 9); // the ring goes on by the zig
        differencesDue(d, 0, 5, 7);
        d.find(0, 0, 0, 4);
        differencesDue(d, 0, 1, 2, 3, 4, 5, 6, 7, 8);
        d.find(0, 0, 0, 5);
        differencesDue(d, 0);
        d.find(0, 1, 0, 1);
        differencesDue(d, 0);
        int[] others = {1, 2, 3, 4, -1};
        for (int c : others) {
            Desk.due("differences(" + c + ", -1)", d.x.differences(c, -1), -1);
            Desk.due("differences(" + c + ", 0)", d.x.differences(c, 0), -1);
        }
        Desk two = Desk.with(ZIG + "zig y from 0 to 3 by 1 at 0 up;");
        two.find(1, 0, 0, 7, 1, 1, 0, 1);
        differencesDue(two, 0, 3);
        differencesDue(two, 1, 1);
        two.find(1, 0, 0, 6, 1, 1, 0, 1);
        differencesDue(two, 0, 2);
        differencesDue(two, 1);
    }

    private static void tellsDue(Desk d, int... want) {
        for (int what = 0; what < 3; what++) {
            Desk.due("tells(" + what + ")", d.x.tells(what), want[what]);
        }
        Desk.due("tells(3)", d.x.tells(3), -1);
        Desk.due("tells(-1)", d.x.tells(-1), -1);
    }

    private static void tells() {
        Desk.about = "promise 22";
        tellsDue(new Desk(), -1, -1, -1);
        tellsDue(Desk.with("sum s is line;"), -1, -1, -1);
        tellsDue(Desk.with("ring r of 4 at 0 by 1;"), 0, 0, 100);
        tellsDue(Desk.with("sum s is line;ring r of 4 at 0 by 1;ring q of 400 at 0 by 1;"), 0, 2, 1);
        tellsDue(Desk.with("ring r of 4 at 0 by 1;ring q of 4 at 0 by 3;"), 0, 0, 100);
        // q stands at 0 up to line 199 and moves then: the farther down, the fewer lines that tell 0
        Desk late = Desk.with("ring q of 300 at 0 by min(1,max(0,line-199));");
        tellsDue(late, 30, 0, 170);
        Desk d = Desk.with(ZIG);
        d.find(0, 0, 0, 4); // at 0 4 of each 16: 7 or 3 behind it
        tellsDue(d, 1, 0, 25);
        d.find(0, 0, 0, 4, 0, 0, 0, 5);
        tellsDue(d, -1, -1, -1);
    }
}
