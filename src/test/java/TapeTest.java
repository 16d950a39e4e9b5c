/** A new object, the tape, refusals (promises 1, 2, 3, 6, 33). */
public final class TapeTest {
    public static void main(String[] args) {
        newObject();
        feed();
        end();
        has();
        status();
        Desk.finish();
    }

    private static void newObject() {
        Desk.about = "promise 1";
        ZigzagTablets x = new ZigzagTablets();
        for (int what = 0; what < 7; what++) {
            Desk.due("has(" + what + ")", x.has(what), 0);
        }
        Desk.due("letter(0, 0)", x.letter(0, 0), -1);
        Desk.due("column(0, 0)", x.column(0, 0), -1);
        Desk.due("value(0, 0)", x.value(0, 0), ZigzagTablets.NOTHING);
        Desk.due("later(0, 0)", x.later(0, 0), ZigzagTablets.NOTHING);
        Desk.due("bounds(0, 0, 0)", x.bounds(0, 0, 0), ZigzagTablets.NOTHING);
        Desk.due("octet(0)", x.octet(0), -1);
        Desk.due("heal(60)", x.heal(60), 0);
        Desk.due("odds(-1)", x.odds(-1), -1);
        Desk.due("fits(-1)", x.fits(-1), 400);
        Desk.due("tells(0)", x.tells(0), -1);
        Desk.due("write(100)", x.write(100), 0);
        Desk.due("has(1)", x.has(1), 100);
        Desk.due("has(6)", x.has(6), 1);
        Desk.due("undo()", x.undo(), true);
        Desk.due("has(1)", x.has(1), 0);
        for (int what = 0; what < 6; what++) {
            Desk.due("status(" + what + ")", x.status(what), 0);
        }
    }

    private static void feed() {
        Desk.about = "promise 2";
        ZigzagTablets x = new ZigzagTablets();
        for (int i = 1; i <= 80; i++) {
            Desk.due("feed", x.feed(-1, 0, Integer.MIN_VALUE, 5, 6), 20 * i);
        }
        Desk.due("feed beyond 1600", x.feed(0, 0, 0, 0, 0), -1);
        Desk.due("status(0)", x.status(0), 1);
        Desk.due("end(1581)", x.end(1581), true);
        Desk.due("feed beyond 1600", x.feed(0, 0, 0, 0, 0), -1);
        Desk.due("end(1580)", x.end(1580), true);
        Desk.due("feed up to 1600", x.feed(0, 0, 0, 0, 0), 1600);
        Desk.due("status(0)", x.status(0), 2);
        // the highest byte first, five numbers along: "slip 5;slip 6;slip 7"
        ZigzagTablets y = new ZigzagTablets();
        y.feed(0x736c6970, 0x20353b73, 0x6c697020, 0x363b736c, 0x69702037);
        y.feed(0x3b202020, 0x20202020, 0x20202020, 0x20202020, 0x20202020);
        Desk.due("tablet() of fed numbers", y.tablet(), 3);
    }

    private static void end() {
        Desk.about = "promise 3";
        ZigzagTablets x = new ZigzagTablets();
        Desk.due("end(0) of nothing", x.end(0), true);
        Desk.due("end(1) of nothing", x.end(1), false);
        Desk.due("end(-1)", x.end(-1), false);
        x.feed(0x736c6970, 0x20353b73, 0x6c697020, 0x363b736c, 0x69702037);
        Desk.due("end(21)", x.end(21), false);
        Desk.due("end(20)", x.end(20), true);
        Desk.due("end(7)", x.end(7), true);
        Desk.due("end(8)", x.end(8), false);
        Desk.due("status(0)", x.status(0), 4);
        Desk.due("tablet()", x.tablet(), 1);
        Desk.due("end(1) when the tape is gone", x.end(1), false);
        Desk.due("feed when the tape is gone", x.feed(0, 0, 0, 0, 0), 20);
    }

    private static void has() {
        Desk.about = "promise 6";
        Desk d = Desk.with("zig z from 0 to 9 by 2 at 3 up;ring r of 7 at 5 by 3;sum s is r;marks z=3 or z>6;");
        int[] first = {3, 0, 1, 0, 0, 0, 0, -1};
        int[] then = {3, 4, 1, 2, 3, 2, 3, -1};
        hasDue(d, first);
        d.x.write(3);
        d.x.put(1, 6);
        d.x.write(1);
        d.find(0, 0, 0, 3, 1, 1, 0, 1);
        hasDue(d, then);
        Desk.due("has(-1)", d.x.has(-1), -1);
        d.x.put(0, 5);
        Desk.due("has(2) of a line that is not marked", d.x.has(2), 0);
        Desk.due("has(3)", d.x.has(3), 3);
    }

    private static void hasDue(Desk d, int[] want) {
        for (int what = 0; what < want.length; what++) {
            Desk.due("has(" + what + ")", d.x.has(what), want[what]);
        }
    }

    private static void status() {
        Desk.about = "promise 33";
        Desk d = new Desk();
        d.x.end(-1);
        d.tell("x");
        d.find();
        d.x.put(0, 1);
        d.x.turn(0);
        d.x.put(-1, 1);
        d.x.write(0);
        d.x.chance(0);
        d.x.write(101);
        d.x.chance(-1);
        for (int i = 0; i < 5; i++) {
            d.x.undo();
        }
        d.x.seed(-1);
        d.on();
        d.on(0, 0, 0);
        d.x.seed(-7);
        d.x.seed(Integer.MIN_VALUE);
        d.on(1);
        d.ask("x");
        for (int what = 0; what < 6; what++) {
            Desk.due("status(" + what + ")", d.x.status(what), what + 1);
        }
        Desk.due("status(6)", d.x.status(6), -1);
        Desk.due("status(-1)", d.x.status(-1), -1);
        d.tell("slip 1;");
        Desk.due("status(4) behind a new tablet", d.x.status(4), 5);
    }
}
