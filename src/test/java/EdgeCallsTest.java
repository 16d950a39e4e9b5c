/** The edges that promises 1, 2, 3, 6, 33 name, and the 512 calls for which an object is used. */
public final class EdgeCallsTest {
    private static final int[] FAR = {Integer.MIN_VALUE, -2, -1, Integer.MAX_VALUE};

    public static void main(String[] args) {
        constants();
        newObject();
        feedBytes();
        feedFull();
        end();
        has();
        hasTrue();
        status();
        statusOfEach();
        manyCalls();
        Desk.finish();
    }

    private static void constants() {
        Desk.about = "the constants";
        Desk.due("NONE", ZigzagTablets.NONE, -1);
        Desk.due("NOTHING", ZigzagTablets.NOTHING, -1000000000000000L);
    }

    private static void newObject() {
        Desk.about = "promise 1: no tablet, no columns";
        Desk d = new Desk();
        d.hasDue(0, 0, 0, 0, 0, 0, 0);
        Desk.due("end(1): the tape is empty", d.x.end(1), false);
        for (int c = 0; c < 8; c++) {
            Desk.due("letter(" + c + ", 0)", d.x.letter(c, 0), -1);
            Desk.due("column(" + c + ", 0)", d.x.column(c, 0), -1);
            Desk.due("value(" + c + ", 0)", d.x.value(c, 0), ZigzagTablets.NOTHING);
            Desk.due("period(" + c + ")", d.x.period(c), -1);
            Desk.due("put(" + c + ", 0)", d.x.put(c, 0), false);
            Desk.due("turn(" + c + ")", d.x.turn(c), false);
        }
        Desk.due("undo()", d.x.undo(), false);
        Desk.due("two objects share nothing", new Desk().x.status(2), 0);
    }

    private static void feedBytes() {
        Desk.about = "promise 2: twenty bytes come behind those on the tape, of each number the highest first";
        ZigzagTablets x = new ZigzagTablets();
        // "ring r of 9 at 4 by 1;sum s is 0;marks all;": 44 bytes, and blanks behind them
        Desk.due("feed", x.feed(0x72696e67, 0x2072206f, 0x66203920, 0x61742034, 0x20627920), 20);
        Desk.due("feed", x.feed(0x313b7375, 0x6d207320, 0x69732030, 0x3b6d6172, 0x6b732061), 40);
        Desk.due("feed", x.feed(0x6c6c3b20, 0x20202020, 0x20202020, 0x20202020, 0x20202020), 60);
        Desk.due("tablet()", x.tablet(), 3);
        // bytes above 127 are what they are
        Desk.due("feed", x.feed(0xff800001, -1, 0, 0, 0), 20);
        x.end(0);
        Desk.due("feed behind none", x.feed(0x00050f42, 0x48000f42, 0x4000ff00, 0, 0), 20);
        x.end(11);
        Desk.due("on() of a wrong seal", x.on(), false);
        x.feed(0x00050f42, 0x48000f42, 0x40000000, 0, 0);
        x.end(10);
        int seal = 181;
        for (int b : new int[] {0, 5, 15, 66, 72, 0, 15, 66, 64, 0}) {
            seal = (3 * seal + b) % 251;
        }
        Desk.due("feed behind ten", x.feed(seal << 24, 0, 0, 0, 0), 30);
        x.end(11);
        Desk.due("on()", x.on(), true);
        Desk.due("value(0, 0)", x.value(0, 0), 8);
    }

    private static void feedFull() {
        Desk.about = "promise 2: NONE, refused (0), if there would be more than 1600";
        ZigzagTablets x = new ZigzagTablets();
        for (int i = 1; i < 80; i++) {
            x.feed(0x20202020, 0x20202020, 0x20202020, 0x20202020, 0x20202020);
        }
        Desk.due("feed: 1600", x.feed(0, 0, 0, 0, 0), 1600);
        Desk.due("status(0)", x.status(0), 0);
        Desk.due("feed: 1620", x.feed(1, 1, 1, 1, 1), -1);
        Desk.due("status(0)", x.status(0), 1);
        Desk.due("all stay: end(1600)", x.end(1600), true);
        Desk.due("none came: end(1601)", x.end(1601), false);
        Desk.due("end(1599)", x.end(1599), true);
        Desk.due("feed: 1619", x.feed(1, 1, 1, 1, 1), -1);
        Desk.due("end(1581)", x.end(1581), true);
        Desk.due("feed: 1601", x.feed(1, 1, 1, 1, 1), -1);
        Desk.due("end(1580)", x.end(1580), true);
        Desk.due("feed: 1600", x.feed(0x20202020, 0x20202020, 0x20202020, 0x20202020, 0x20202020), 1600);
        Desk.due("status(0)", x.status(0), 4);
        Desk.due("tablet() of blanks", x.tablet(), 0);
        Desk.due("feed on the tape that went", x.feed(0, 0, 0, 0, 0), 20);
    }

    private static void end() {
        Desk.about = "promise 3: its first n bytes alone; refused (0), if it has not so many, or n is below 0";
        ZigzagTablets x = new ZigzagTablets();
        Desk.due("end(0) of none", x.end(0), true);
        Desk.due("end(1) of none", x.end(1), false);
        Desk.due("status(0)", x.status(0), 1);
        x.feed(0x736c6970, 0x20353b73, 0x6c697020, 0x363b736c, 0x69702037); // slip 5;slip 6;slip 7
        Desk.due("end(21)", x.end(21), false);
        Desk.due("end(20)", x.end(20), true);
        for (int n : FAR) {
            Desk.due("end(" + n + ")", x.end(n), false);
        }
        Desk.due("status(0)", x.status(0), 6);
        Desk.due("refused, all stay: end(20)", x.end(20), true);
        Desk.due("end(14)", x.end(14), true);
        Desk.due("end(15)", x.end(15), false);
        Desk.due("feed behind it", x.feed(0x20202020, 0x20202020, 0x20202020, 0x20202020, 0x20202020), 34);
        Desk.due("tablet()", x.tablet(), 2);
        x.feed(0x736c6970, 0x20353b73, 0x6c697020, 0x363b736c, 0x69702037);
        Desk.due("end(0)", x.end(0), true);
        Desk.due("tablet() of none", x.tablet(), 0);
    }

    private static void has() {
        Desk.about = "promise 6: how many there are; NONE for others";
        Desk d = Desk.with("zig a from 0 to 9 by 1 at 1 up;arc b of 9 at 2 to 4 fast 1 slow 1;ring c of 9 at 3 by 1;"
                + "sum d is 4;sum e is 5;sum f is 6;sum g is 7;sum h is c;marks line>0;");
        d.hasDue(8, 0, 0, 0, 0, 0, 0, -1);
        for (int what : FAR) {
            Desk.due("has(" + what + ")", d.x.has(what), -1);
        }
        for (int i = 0; i < 9; i++) {
            d.x.write(100);
        }
        d.x.write(99);
        d.find(0, 0, 0, 1, 0, 0, 0, 1, 0, 0, 0, 1, 0, 0, 0, 1, 0, 0, 0, 1, 0, 0, 0, 1,
                0, 0, 0, 1, 0, 0, 0, 1, 0, 0, 0, 1, 0, 0, 0, 1, 0, 0, 0, 1, 0, 0, 0, 1);
        for (int i = 0; i < 20; i++) {
            d.x.turn(0);
        }
        d.hasDue(8, 999, 1, 0, 40, 12, 20);
        Desk one = Desk.with("sum a is 1;");
        one.hasDue(1, 0, 0, 0, 0, 0, 0);
    }

    private static void hasTrue() {
        Desk.about = "promise 6: 3 COLUMNS that are not TRUE now";
        Desk d = Desk.with("ring a of 9 at 1 by 1;ring b of 9 at 2 by a;sum c is b;");
        d.x.put(0, 2);
        Desk.due("has(3)", d.x.has(3), 1);
        d.x.put(0, 1);
        Desk.due("has(3) of what is set back", d.x.has(3), 0);
        d.x.put(0, 3);
        d.x.write(1);
        Desk.due("has(3) in the next line", d.x.has(3), 3);
        Desk zig = Desk.with("zig z from 3 to 9 by 3 at 6 up;");
        zig.x.turn(0);
        Desk.due("a way is not what is told", zig.x.has(3), 0);
        zig.x.write(1);
        Desk.due("has(3) of the other way", zig.x.has(3), 1);
    }

    private static void status() {
        Desk.about = "promise 33: how many were refused; NONE for others";
        Desk d = new Desk();
        for (int what = 0; what < 6; what++) {
            d.statusDue(what, 0);
        }
        d.statusDue(6, -1);
        for (int what : FAR) {
            d.statusDue(what, -1);
        }
    }

    private static void only(Desk d, int what, int refused) {
        for (int i = 0; i < 6; i++) {
            d.statusDue(i, i == what ? refused : 0);
        }
    }

    private static void statusOfEach() {
        Desk.about = "promise 33: 0 feed(), end(); 1 tablet(), find(); 2 put(), turn(); 3 write(), chance(); "
                + "4 undo(); 5 seed(), on()";
        Desk tape = new Desk();
        for (int i = 0; i < 80; i++) {
            tape.x.feed(0, 0, 0, 0, 0);
        }
        tape.x.feed(0, 0, 0, 0, 0);
        only(tape, 0, 1);
        tape.x.end(-1);
        only(tape, 0, 2);
        Desk texts = new Desk();
        texts.tell("x");
        only(texts, 1, 1);
        texts.find(1);
        only(texts, 1, 2);
        texts.ask("x");
        only(texts, 1, 2);
        Desk columns = new Desk();
        columns.x.put(0, 0);
        only(columns, 2, 1);
        columns.x.turn(0);
        only(columns, 2, 2);
        Desk lines = new Desk();
        lines.x.write(0);
        only(lines, 3, 1);
        lines.x.chance(0);
        only(lines, 3, 2);
        Desk undone = new Desk();
        undone.x.undo();
        only(undone, 4, 1);
        Desk state = new Desk();
        state.x.seed(-1);
        only(state, 5, 1);
        state.on(1);
        only(state, 5, 2);
        Desk.about = "promise 33: what was refused is counted on behind a tablet, an image, an act undone";
        Desk all = new Desk();
        all.x.end(-1);
        all.find(1);
        all.x.put(0, 0);
        all.x.write(0);
        all.x.undo();
        all.x.seed(-1);
        all.tell("slip 1;");
        all.x.write(1);
        all.x.undo();
        all.onSealed(0, 0);
        for (int what = 0; what < 6; what++) {
            all.statusDue(what, 1);
        }
        Desk.about = "promise 33: questions that have no answer are not refused";
        Desk asked = new Desk();
        asked.x.later(0, 0);
        asked.x.bounds(0, 0, 0);
        asked.x.period(0);
        asked.x.when(0, 0);
        asked.x.meet(0, 0);
        asked.x.marks(0, 0);
        asked.x.heal(0);
        asked.x.odds(0);
        asked.x.fits(400);
        asked.x.differences(0, 0);
        asked.x.tells(9);
        asked.x.octet(0);
        asked.x.kept(0, 0);
        only(asked, 0, 0);
    }

    private static void manyCalls() {
        Desk.about = "an object is used for at most 512 calls";
        ZigzagTablets x = new ZigzagTablets();
        x.feed(0x72696e67, 0x2072206f, 0x66203920, 0x61742034, 0x20627920); // ring r of 9 at 4 by
        x.feed(0x313b2020, 0x20202020, 0x20202020, 0x20202020, 0x20202020); // 1;
        Desk.due("tablet()", x.tablet(), 1);
        for (int call = 4; call < 512; call += 2) {
            Desk.due("write(1) as call " + call, x.write(1), 0);
            Desk.due("later(0, 9) as call " + (call + 1), x.later(0, 9), (4 + (call - 2) / 2) % 9);
        }
        Desk.due("the 512th call", x.has(1), 254);
    }
}
