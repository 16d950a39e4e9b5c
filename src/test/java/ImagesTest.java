/** Images (promises 30 to 32), and calls with any numbers at all. */
public final class ImagesTest {
    private static final String FOUR = "zig z from 2 to 10 by 3 at 4 up;arc a of 300 at 0 to 5 fast 3 slow 2;"
            + "ring r of 7 at 2 by 1;sum s is prev-1;";

    public static void main(String[] args) {
        image();
        on();
        refusedImages();
        anyNumbers();
        Desk.finish();
    }

    private static void octetsDue(Desk d, int... want) {
        int seal = 181;
        for (int b : want) {
            seal = (3 * seal + b) % 251;
        }
        Desk.due("image()", d.x.image(), want.length + 1);
        for (int k = 0; k < want.length; k++) {
            Desk.due("octet(" + k + ")", d.x.octet(k), want[k]);
        }
        Desk.due("the last octet", d.x.octet(want.length), seal);
        Desk.due("octet behind it", d.x.octet(want.length + 1), -1);
        Desk.due("octet(-1)", d.x.octet(-1), -1);
    }

    private static void image() {
        Desk.about = "promises 30 and 31";
        octetsDue(new Desk(), 0, 0);
        Desk d = Desk.with(FOUR);
        Desk.due("octet(0)", d.x.octet(0), -1);
        octetsDue(d, 0, 0, 15, 66, 68, 1, 15, 66, 64, 0, 15, 66, 66, 0, 15, 66, 63, 0);
        d.x.put(1, 299);
        d.x.turn(0);
        Desk.due("the latest image stays", d.x.octet(5), 1);
        octetsDue(d, 0, 0, 15, 66, 68, 0, 15, 67, 107, 0, 15, 66, 66, 0, 15, 66, 63, 0);
        d.x.write(100);
        d.x.write(100);
        d.x.write(100);
        d.x.image();
        Desk.due("octet(0)", d.x.octet(0), 1);
        Desk.due("octet(1)", d.x.octet(1), 44);
        Desk.due("a sum below 0", d.x.octet(14) * 65536 + d.x.octet(15) * 256 + d.x.octet(16), 1000000 - 301);
    }

    private static void on() {
        Desk.about = "promise 32";
        Desk d = Desk.with(FOUR + "marks all;slip 40;");
        d.x.write(5);
        d.x.put(0, 2);
        d.find(0, 0, 0, 4);
        Desk.due("on()", d.onSealed(3, 231, 15, 66, 74, 1, 15, 67, 107, 0, 15, 66, 64, 0, 30, 132, 128, 0), true);
        int[] has = {4, 999, 1, 3, 0, 1, 0};
        for (int what = 0; what < has.length; what++) {
            Desk.due("has(" + what + ")", d.x.has(what), has[what]);
        }
        long[] now = {10, 299, 0, 1000000};
        for (int c = 0; c < 4; c++) {
            Desk.due("value(" + c + ", 0)", d.x.value(c, 0), now[c]);
        }
        Desk.due("value(0, 1)", d.x.value(0, 1), trueZig(999));
        Desk.due("undo()", d.x.undo(), false);
        Desk.due("on() again", d.onSealed(0, 7, 15, 66, 66, 0, 15, 66, 64, 0, 15, 66, 70, 0, 0, 0, 0, 0), true);
        Desk.due("column(0, 1)", d.x.column(0, 1), 0);
        d.laterDue(0, 2, 5, 8);
        d.laterDue(1, 0, 3, 5);
        d.laterDue(2, 6, 0, 1);
        d.laterDue(3, -1000000, -1000000);
        Desk.due("the tape is gone", d.x.feed(0, 0, 0, 0, 0), 20);
        Desk same = Desk.with(FOUR);
        same.x.write(9);
        same.x.turn(0);
        int[] bytes = new int[same.x.image()];
        for (int k = 0; k < bytes.length; k++) {
            bytes[k] = same.x.octet(k);
        }
        long later = same.x.later(0, 5);
        same.x.write(9);
        Desk.due("on() of its own image", same.on(bytes), true);
        Desk.due("has(1)", same.x.has(1), 9);
        Desk.due("later(0, 5)", same.x.later(0, 5), later);
    }

    private static int trueZig(int line) {
        int[] round = {4, 7, 10, 7, 4, 3, 6, 9, 8, 5, 2, 5, 8, 9, 6, 3};
        return round[line % 16];
    }

    private static void refusedImages() {
        Desk.about = "promise 32, refused";
        Desk d = Desk.with(FOUR);
        d.x.write(2);
        int[] good = {0, 9, 15, 66, 74, 1, 15, 67, 107, 0, 15, 66, 64, 0, 30, 132, 128, 0};
        int[][] bad = {
            {0, 3, 1, 232}, {0, 255, 1, 0}, // beyond line 999
            {4, 65}, {4, 75}, // the zig below and above its bounds
            {7, 67, 8, 108}, {6, 0}, // the arc beyond its places
            {12, 71}, {12, 63}, // the ring
            {16, 129}, // the sum above 1000000
            {5, 2}, {9, 1}, {13, 1}, {17, 1}, {17, 255}, // ways
        };
        for (int[] change : bad) {
            int[] bytes = good.clone();
            for (int i = 0; i < change.length; i += 2) {
                bytes[change[i]] = change[i + 1];
            }
            Desk.due("on() with " + java.util.Arrays.toString(change), d.onSealed(bytes), false);
        }
        Desk.due("on() without seal", d.on(good), false);
        Desk.due("on() of nothing", d.on(), false);
        Desk.due("on() with too much", d.onSealed(java.util.Arrays.copyOf(good, 19)), false);
        Desk.due("on() with a wrong seal", d.on(java.util.Arrays.copyOf(good, 19)), false);
        Desk.due("status(5)", d.x.status(5), bad.length + 4);
        Desk.due("has(1) stays", d.x.has(1), 2);
        Desk.due("has(6) stays", d.x.has(6), 1);
        Desk.due("on() of the good one", d.onSealed(good), true);
    }

    private static void anyNumbers() {
        Desk.about = "any numbers";
        int[] numbers = {Integer.MIN_VALUE, -1000000000, -2, -1, 0, 1, 3, 7, 8, 31, 32, 200, 999, 1000, Integer.MAX_VALUE};
        String[] texts = {"", FOUR, "slip 100;", "sum a is line/0;marks all;",
            "zig a from 0 to 999 by 999 at 0 up;ring r of 999 at 0 by a*a*a-prev*9999;slip 100;marks r>a;"};
        for (String text : texts) {
            for (int a : numbers) {
                Desk d = Desk.with(text);
                for (int b : numbers) {
                    oneOfEach(d, a, b);
                }
            }
        }
    }

    private static void oneOfEach(Desk d, int a, int b) {
        ZigzagTablets x = d.x;
        x.has(a);
        x.letter(a, b);
        x.column(a, b);
        x.value(a, b);
        x.kept(a, b);
        x.later(a, b);
        x.bounds(a, b, 0);
        x.bounds(0, a, b);
        x.period(a);
        x.when(a, b);
        x.meet(a, b);
        x.marks(a, b);
        x.heal(a);
        x.odds(a);
        x.fits(a);
        x.differences(a, b);
        x.tells(a);
        x.chance(a);
        x.write(b);
        x.put(a, b);
        x.turn(a);
        x.seed(b);
        x.octet(a);
        x.status(a);
        x.fault(a);
        x.feed(a, b, a, b, a);
        x.end(b);
        x.find();
        x.feed(a, b, a, b, a);
        x.on();
        x.feed(b, a, b, a, b);
        x.ask();
        x.undo();
        x.image();
    }
}
