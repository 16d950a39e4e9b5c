/** The edges that part I and promises 4, 5, 7, 8 name, from both sides. A ^ stands where the fault is. */
public final class EdgeTextsTest {
    private static final String EIGHT = "zig a from 0 to 1 by 1 at 0 up;arc b of 4 at 0 to 2 fast 1 slow 1;"
            + "ring c of 2 at 0 by 1;sum d is 1;sum e is 2;sum f is 3;sum g is 4;sum h is 5;";

    public static void main(String[] args) {
        statements();
        zigs();
        arcs();
        rings();
        columns();
        marksAndSlip();
        digits();
        heldSums();
        divisions();
        comparisons();
        names();
        namesAhead();
        blanks();
        sideBySide();
        unfitBytes();
        textEnds();
        goesOnWithNone();
        wordsWhole();
        firstAlongTheText();
        openAtOnce();
        notUntilItsFactEnds();
        tooMany();
        tabletIsTaken();
        nothingOfTheTabletsAhead();
        tabletIsRefused();
        faultOfTheLatest();
        longestTexts();
        lettersOfNames();
        columnsAsked();
        Desk.finish();
    }

    private static void good(String text) {
        Desk.statementsDue(text, (int) text.chars().filter(c -> c == ';').count());
    }

    private static void statements() {
        Desk.about = "{ STATEMENT ; } (60 at most)";
        good("");
        good("slip 1;");
        good("slip 1;".repeat(59));
        good("slip 1;".repeat(60));
        Desk.faultAt(5, "slip 1;".repeat(60) + "^slip 1;");
        good(EIGHT + "marks all;" + "slip 1;".repeat(51));
        Desk.faultAt(5, EIGHT + "marks all;" + "slip 1;".repeat(51) + "^slip 1;");
        Desk.faultAt(1, "slip 1^");
        Desk.faultAt(1, "slip 1 ^slip 2;");
        Desk.faultAt(1, "slip 1;^;");
    }

    private static void zigs() {
        Desk.about = "zig: low, high, difference, start: 0 .. 999, the second above the first; "
                + "1 .. how far they are from one another; from low to high; which way it goes first";
        Desk least = Desk.with("zig z from 0 to 1 by 1 at 0 down;");
        Desk.due("column(0, 2)", least.x.column(0, 2), 0);
        Desk.due("column(0, 3)", least.x.column(0, 3), 1);
        Desk.due("column(0, 1)", least.x.column(0, 1), 0);
        Desk greatest = Desk.with("zig z from 0 to 999 by 999 at 999 up;");
        Desk.due("column(0, 3)", greatest.x.column(0, 3), 999);
        Desk.due("column(0, 1)", greatest.x.column(0, 1), 1);
        greatest.laterDue(0, 999, 0, 999);
        good("zig z from 998 to 999 by 1 at 998 up;");
        good("zig z from 0000 to 0001 by 0001 at 0000 up;");
        good("zig z from 3 to 7 by 1 at 3 up;");
        good("zig z from 3 to 7 by 4 at 7 up;");
        Desk.faultAt(2, "zig z from ^1000 to 999 by 1 at 0 up;");
        Desk.faultAt(2, "zig z from ^9999 to 9999 by 1 at 0 up;");
        Desk.faultAt(2, "zig z from 0 to ^1000 by 1 at 0 up;");
        Desk.faultAt(2, "zig z from 999 to ^1000 by 1 at 999 up;");
        Desk.faultAt(2, "zig z from 999 to ^999 by 1 at 999 up;");
        Desk.faultAt(2, "zig z from 3 to ^3 by 1 at 3 up;");
        Desk.faultAt(2, "zig z from 3 to ^2 by 1 at 3 up;");
        Desk.faultAt(2, "zig z from 0 to ^0 by 1 at 0 up;");
        Desk.faultAt(2, "zig z from 3 to 7 by ^0 at 3 up;");
        Desk.faultAt(2, "zig z from 3 to 7 by ^5 at 3 up;");
        Desk.faultAt(2, "zig z from 3 to 7 by 4 at ^2 up;");
        Desk.faultAt(2, "zig z from 3 to 7 by 4 at ^8 up;");
        Desk.faultAt(1, "zig z from 3 to 7 by 4 at 3 ^to;");
        Desk.faultAt(1, "zig z from 3 to 7 by 4 at 3^;");
        Desk.faultAt(1, "zig z from 3 to 7 by 4 at 3 up ^down;");
        Desk.faultAt(1, "zig z ^to 3 from 7 by 4 at 3 up;");
        Desk.faultAt(1, "zig z from ^-3 to 7 by 4 at 3 up;");
    }

    private static void arcs() {
        Desk.about = "arc: how many places, 4 .. 999; start, 0 .. that less 1; 2 .. that less 2 are quick; "
                + "the quick step, 1 .. as many; the slow step, 1 .. how many places are not quick";
        Desk least = Desk.with("arc a of 4 at 0 to 2 fast 1 slow 1;");
        Desk.due("column(0, 3)", least.x.column(0, 3), 3);
        good("arc a of 4 at 3 to 2 fast 2 slow 2;");
        Desk greatest = Desk.with("arc a of 999 at 998 to 997 fast 997 slow 2;");
        Desk.due("column(0, 2)", greatest.x.column(0, 2), 0);
        Desk.due("column(0, 3)", greatest.x.column(0, 3), 998);
        good("arc a of 999 at 0 to 2 fast 2 slow 997;");
        good("arc a of 9 at 8 to 7 fast 7 slow 2;");
        Desk.faultAt(2, "arc a of ^3 at 0 to 2 fast 1 slow 1;");
        Desk.faultAt(2, "arc a of ^0 at 0 to 2 fast 1 slow 1;");
        Desk.faultAt(2, "arc a of ^1000 at 0 to 2 fast 1 slow 1;");
        Desk.faultAt(2, "arc a of 4 at ^4 to 2 fast 1 slow 1;");
        Desk.faultAt(2, "arc a of 999 at ^999 to 2 fast 1 slow 1;");
        Desk.faultAt(2, "arc a of 9 at 0 to ^0 fast 1 slow 1;");
        Desk.faultAt(2, "arc a of 9 at 0 to ^1 fast 1 slow 1;");
        Desk.faultAt(2, "arc a of 9 at 0 to ^8 fast 1 slow 1;");
        Desk.faultAt(2, "arc a of 4 at 0 to ^3 fast 1 slow 1;");
        Desk.faultAt(2, "arc a of 9 at 0 to 7 fast ^0 slow 1;");
        Desk.faultAt(2, "arc a of 9 at 0 to 7 fast ^8 slow 1;");
        Desk.faultAt(2, "arc a of 9 at 0 to 7 fast 7 slow ^0;");
        Desk.faultAt(2, "arc a of 9 at 0 to 7 fast 7 slow ^3;");
        Desk.faultAt(1, "arc a of 9 at 0 to 7 ^slow 1 fast 1;");
        Desk.faultAt(1, "arc a of 9 at 0 to 7 fast 1^;");
    }

    private static void rings() {
        Desk.about = "ring: 2 .. 999 places; start";
        Desk least = Desk.with("ring r of 2 at 1 by 0;");
        Desk.due("column(0, 2)", least.x.column(0, 2), 0);
        Desk.due("column(0, 3)", least.x.column(0, 3), 1);
        least.valuesDue(1);
        good("ring r of 2 at 0 by 0;");
        Desk greatest = Desk.with("ring r of 999 at 998 by 0;");
        Desk.due("column(0, 3)", greatest.x.column(0, 3), 998);
        greatest.valuesDue(998);
        Desk.faultAt(2, "ring r of ^1 at 0 by 0;");
        Desk.faultAt(2, "ring r of ^0 at 0 by 0;");
        Desk.faultAt(2, "ring r of ^1000 at 0 by 0;");
        Desk.faultAt(2, "ring r of 2 at ^2 by 0;");
        Desk.faultAt(2, "ring r of 999 at ^999 by 0;");
        Desk.faultAt(1, "ring r of 2 at 1 by^;");
    }

    private static void columns() {
        Desk.about = "8 COLUMNS in all; 5 a 9th COLUMN";
        good(EIGHT);
        good(EIGHT + "slip 5;marks h=5;");
        good("slip 5;" + EIGHT);
        Desk.faultAt(5, EIGHT + "^zig i from 0 to 1 by 1 at 0 up;");
        Desk.faultAt(5, EIGHT + "^arc i of 4 at 0 to 2 fast 1 slow 1;");
        Desk.faultAt(5, EIGHT + "^ring i of 2 at 0 by 1;");
        Desk.faultAt(5, EIGHT + "^sum i is 1;");
        Desk.faultAt(5, EIGHT + "slip 5;\n ^sum at ;");
        Desk.faultAt(1, EIGHT + "^sums i is 1;");
    }

    private static void slipDue(String text, int slip) {
        // a ring of 10 comes round to what is true by no slip of 1 .. 9
        Desk d = Desk.with("ring r of 10 at 0 by 1;" + text);
        Desk.due("odds(0) of " + text, d.x.odds(0), 9 * (100 - slip));
    }

    private static void marksAndSlip() {
        Desk.about = "marks TEST (one); slip N (0 .. 100; the last one counts, 0 without)";
        slipDue("", 0);
        slipDue("slip 0;", 0);
        slipDue("slip 1;", 1);
        slipDue("slip 99;", 99);
        slipDue("slip 100;", 100);
        slipDue("slip 100;slip 7;", 7);
        slipDue("slip 7;slip 100;slip 0;", 0);
        Desk.faultAt(2, "slip ^101;");
        Desk.faultAt(2, "slip ^9999;");
        Desk.faultAt(2, "slip 5;slip ^101;");
        Desk.faultAt(1, "slip ^;");
        Desk.faultAt(1, "slip ^-1;");
        good("marks all;");
        Desk.faultAt(5, "marks all;^marks all;");
        Desk.faultAt(5, "marks not all;slip 1; ^marks ?");
        Desk.about = "Without marks no LINE is MARKED";
        Desk bare = Desk.with("sum s is 1;");
        Desk.due("has(2)", bare.x.has(2), 0);
        Desk.due("write(3)", bare.x.write(3), 0);
        Desk.due("has(4)", bare.x.has(4), 0);
        Desk.due("marks(9, 0)", bare.x.marks(9, 0), 0);
        // a tablet without marks behind one with them
        Desk.about = "Without marks, behind a tablet with them";
        Desk d = Desk.with("marks all;");
        Desk.due("has(2)", d.x.has(2), 1);
        d.tell("sum s is 1;");
        Desk.due("has(2)", d.x.has(2), 0);
    }

    private static void digits() {
        Desk.about = "N (1 to 4 digits); where a number is asked, a 5th digit at itself";
        good("sum s is 0;");
        Desk.with("sum s is 9999;").valuesDue(9999);
        Desk.with("sum s is 0009;").valuesDue(9);
        slipDue("slip 0100;", 100);
        Desk.faultAt(1, "sum s is 1000^0;");
        Desk.faultAt(1, "sum s is 0000^1;");
        Desk.faultAt(1, "sum s is 1000^00000000000000;");
        Desk.faultAt(1, "sum s is 1+(2*9999^9);");
        Desk.faultAt(1, "marks 0000^0=0;");
        Desk.faultAt(1, "slip 0010^0;");
        Desk.faultAt(1, "zig z from 0000^0 to 9 by 1 at 0 up;");
        Desk.faultAt(1, "zig z from 0 to 0000^9 by 1 at 0 up;");
        Desk.faultAt(1, "zig z from 0 to 9 by 0000^1 at 0 up;");
        Desk.faultAt(1, "zig z from 0 to 9 by 1 at 0000^0 up;");
        Desk.faultAt(1, "arc a of 0000^9 at 0 to 2 fast 1 slow 1;");
        Desk.faultAt(1, "arc a of 9 at 0 to 2 fast 0000^1 slow 1;");
        Desk.faultAt(1, "arc a of 9 at 0 to 2 fast 1 slow 0000^1;");
        Desk.faultAt(1, "ring r of 0000^9 at 0 by 1;");
        Desk.faultAt(1, "ring r of 9 at 0000^0 by 1;");
    }

    private static void sumDue(String sum, long want) {
        Desk d = Desk.with("sum s is " + sum + ";");
        Desk.due(sum, d.x.value(0, 0), want);
    }

    private static void heldSums() {
        Desk.about = "each sum, difference, product above 10 to the 6 is that, below -10 to the 6 likewise";
        sumDue("999*1001", 999999);
        sumDue("1000*1000", 1000000);
        sumDue("1000*1001", 1000000);
        sumDue("1000*1001-1", 999999);
        sumDue("999*1001+1", 1000000);
        sumDue("999*1001+2", 1000000);
        sumDue("999*1001+2-2", 999998);
        sumDue("1000*1000-(0-1)", 1000000);
        sumDue("1000*1000-(0-1)-1", 999999);
        sumDue("0-999*1001", -999999);
        sumDue("0-999*1001-1", -1000000);
        sumDue("0-999*1001-2", -1000000);
        sumDue("0-999*1001-2+2", -999998);
        sumDue("(0-1000)*1000", -1000000);
        sumDue("(0-1000)*1001", -1000000);
        sumDue("(0-1000)*1001+1", -999999);
        sumDue("1000*(0-1001)+1", -999999);
        sumDue("(0-1000)*(0-1001)-1", 999999);
        sumDue("0-1000*1000+(0-1)", -1000000);
        sumDue("0-1000*1000+(0-1)+1", -999999);
        sumDue("1000*1000+1000*1000", 1000000);
        sumDue("0-1000*1000-1000*1000", -1000000);
        sumDue("1000*1000*(1000*1000)", 1000000);
        sumDue("(0-1000*1000)*(1000*1000)", -1000000);
        sumDue("(0-1000*1000)*(0-1000*1000)", 1000000);
        sumDue("min(9999*9999,1000*1000)", 1000000);
    }

    private static void divisions() {
        Desk.about = "/ gives the greatest whole number not above, by 0 it gives 0";
        sumDue("6/3", 2);
        sumDue("7/3", 2);
        sumDue("8/3", 2);
        sumDue("2/3", 0);
        sumDue("0/3", 0);
        sumDue("(0-6)/3", -2);
        sumDue("(0-7)/3", -3);
        sumDue("(0-1)/9999", -1);
        sumDue("7/(0-3)", -3);
        sumDue("6/(0-3)", -2);
        sumDue("(0-7)/(0-3)", 2);
        sumDue("0/(0-3)", 0);
        sumDue("5/0", 0);
        sumDue("(0-5)/0", 0);
        sumDue("0/0", 0);
        sumDue("5/(3-3)+9", 9);
        sumDue("1000*1000/(0-1)", -1000000);
        sumDue("(0-1000*1000)/(0-1)", 1000000);
        Desk.about = "All from the left on";
        sumDue("9-5-3", 1);
        sumDue("9-5+3", 7);
        sumDue("64/8/2", 4);
        sumDue("7/2*2", 6);
        sumDue("2*7/2", 7);
        sumDue("1+2*3-8/4", 5);
    }

    private static void markedDue(String test, boolean want) {
        Desk.due(test, Desk.with("marks " + test + ";").x.has(2), want ? 1 : 0);
    }

    private static void comparisons() {
        Desk.about = "SUM SIGN SUM, SIGN < or > or =; and ahead of or; not of its FACT alone";
        markedDue("4<5", true);
        markedDue("5<5", false);
        markedDue("6<5", false);
        markedDue("6>5", true);
        markedDue("5>5", false);
        markedDue("4>5", false);
        markedDue("5=5", true);
        markedDue("5=4", false);
        markedDue("5=6", false);
        markedDue("0-1<0", true);
        markedDue("0-1000*1000<0-999*1001", true);
        markedDue("all and not all", false);
        markedDue("not all and all", false);
        markedDue("all or not all", true);
        markedDue("not all or not all", false);
        markedDue("all or all and not all", true);
        markedDue("not all and all or all", true);
        markedDue("not 1=2 and 1=2", false);
        markedDue("not [1=2 and 1=2]", true);
        markedDue("not not not 1=2", true);
        Desk.faultAt(1, "marks 5^;");
        Desk.faultAt(1, "marks 4<^=5;");
        Desk.faultAt(1, "marks 4<5^<6;");
        Desk.faultAt(1, "marks (4^<5);");
        Desk.faultAt(1, "marks ^<5;");
        Desk.faultAt(1, "marks all^=all;");
        Desk.faultAt(1, "marks [all^);");
        Desk.faultAt(1, "marks all^];");
        Desk.faultAt(1, "marks [^];");
        Desk.faultAt(1, "marks all or ^or all;");
        Desk.faultAt(1, "marks not ^and all;");
    }

    private static void names() {
        Desk.about = "NAMES: 1 to 6 letters, no OWN WORD, unlike ones; a 7th letter at itself";
        good("sum a is 1;sum z is a;");
        good("sum abcdef is 1;sum abcdeg is abcdef;");
        Desk.faultAt(1, "sum abcdef^g is 1;");
        Desk.faultAt(1, "zig abcdef^ghijklmnopqrstuvwxyz from 0 to 1 by 1 at 0 up;");
        Desk.faultAt(1, "arc number^s of 4 at 0 to 2 fast 1 slow 1;");
        Desk.faultAt(1, "sum abcdef is 1;sum abcdef^g is 1;");
        Desk.faultAt(1, "sum ^is 1;");
        Desk.faultAt(1, "sum ^5 is 1;");
        Desk.faultAt(1, "sum ^(a) is 1;");
        String own = "zig arc ring sum from to by at up down of fast slow is marks slip line prev number sort value"
                + " drift ahead col or and not all min max";
        for (String word : own.split(" ")) {
            Desk.faultAt(1, "sum ^" + word + " is 1;");
            Desk.faultAt(1, "zig ^" + word + " from 0 to 1 by 1 at 0 up;");
            good("sum " + word.substring(0, word.length() - 1) + "q is 1;");
            good("sum q" + word.substring(1) + " is 1;");
            if (word.length() < 6) {
                good("sum " + word + "q is 1;");
            }
        }
        good("sum first is 1;sum last is first;sum often is last;sum total is 1;sum most is 1;sum least is most;");
        Desk.about = "3 a NAME that is there already, at it";
        Desk.faultAt(3, "sum a is 1;sum ^a is 1;");
        Desk.faultAt(3, "sum abcdef is 1;ring ^abcdef of 2 at 0 by 1;");
        Desk.faultAt(3, EIGHT.substring(0, EIGHT.indexOf("sum h")) + "arc ^a of 4 at 0 to 2 fast 1 slow 1;");
        Desk.faultAt(3, EIGHT.substring(0, EIGHT.indexOf("sum h")) + "zig ^g");
        good("sum ab is 1;sum a is 2;sum abc is 3;sum b is 4;sum ba is 5;");
        good("sum a is 1;slip 2;");
        Desk again = Desk.with("sum a is 1;");
        Desk.due("the same name in another tablet", again.tell("sum a is 2;"), 1);
    }

    private static void namesAhead() {
        Desk.about = "told ahead of where they are asked; a word that is no such PART, at its first byte";
        good("sum a is 1;sum b is a;marks b=a;");
        good("sum abcdef is 7;sum b is abcdef;");
        Desk.faultAt(1, "sum a is ^a;");
        Desk.faultAt(1, "ring a of 2 at 0 by ^a;");
        Desk.faultAt(1, "sum a is ^b;sum b is 1;");
        Desk.faultAt(1, "marks ^a=1;sum a is 1;");
        Desk.faultAt(1, "sum a is 1;sum b is ^ab;");
        Desk.faultAt(1, "sum ab is 1;sum b is ^a;");
        Desk.faultAt(1, "sum ab is 1;sum b is ^abc;");
        Desk.faultAt(1, "sum abcdef is 1;sum b is ^abcdefg;");
        Desk.faultAt(1, "sum a is ^abcdefghijkl;");
        Desk.faultAt(1, "sum a is 1+^values;");
        for (String word : "number sort value drift ahead col first from not all or is zig".split(" ")) {
            Desk.faultAt(1, "sum a is ^" + word + ";");
        }
        Desk.faultAt(1, "marks not ^abcdefghijkl=1;");
        Desk stale = Desk.with("sum a is 1;sum b is 2;");
        Desk.due("a name of the tablet before", stale.tell("sum c is b;"), -1);
        stale.faultDue("a name of the tablet before", 1, 9);
        Desk.about = "in ring, sum: prev";
        good("ring r of 9 at 0 by prev;sum s is prev;");
        Desk.faultAt(1, "marks ^prev=0;");
        Desk.faultAt(1, "marks all and 1=^prev;");
        Desk.faultAt(1, "sum s is prev;marks all or [s<^prev];");
    }

    private static void blanks() {
        Desk.about = "Blanks (10, 32) are where one likes";
        good("  \n\n zig \n z from  0\nto 1 by 1 at 0 up \n ; \n");
        good("\nsum\ns\nis\n(\n1\n+\n2\n)\n*\nmin\n(\n1\n,\n2\n)\n;\n");
        good("marks [ 1 = 1 ] or not [ 1 < 2 ] and all ;");
        good("ring r of 9 at 0 by(1);sum s is(r)*max(r,1)/2-prev;marks[s=1]or not[r<s]and not[all];");
        for (int byteHere : new int[] {0, 9, 11, 12, 13, 31, 33, 127, 128, 160, 255}) {
            String sign = String.valueOf((char) byteHere);
            Desk.faultAt(1, "^" + sign + "slip 5;");
            Desk.faultAt(1, "slip^" + sign + "5;");
            Desk.faultAt(1, "slip 5^" + sign + ";");
            Desk.faultAt(1, "slip 5;^" + sign);
        }
        Desk.faultAt(1, "slip 1 ^0;");
        Desk.faultAt(1, "^sl ip 5;");
        Desk.faultAt(1, "sum a ^b is 5;");
        Desk.faultAt(1, "zig z ^fr om 0 to 1 by 1 at 0 up;");
        Desk.faultAt(1, "sum s is 1 ^2;");
    }

    private static void sideBySide() {
        Desk.about = "words and numbers side by side need one";
        Desk.faultAt(1, "slip^5;");
        Desk.faultAt(1, "zig z from^0 to 1 by 1 at 0 up;");
        Desk.faultAt(1, "zig z from 0^to 1 by 1 at 0 up;");
        Desk.faultAt(1, "zig z from 0 to 1 by 1 at 0^up;");
        Desk.faultAt(1, "sum a^1 is 1;");
        Desk.faultAt(1, "marks 1=1^and all;");
        Desk.faultAt(1, "marks 1=1^or all;");
        Desk.faultAt(1, "marks not^1=1;");
        Desk.faultAt(1, "^slipn 5;");
        Desk.faultAt(1, "marks ^allor all;");
        Desk.faultAt(1, "marks ^notall;");
        Desk.faultAt(1, "marks ^linel=1;");
        good("marks not(1)=(1)and all;");
    }

    private static void unfitBytes() {
        Desk.about = "1 the first byte with which no such text goes on (words and numbers whole, at their first byte)";
        Desk.faultAt(1, "^x;");
        Desk.faultAt(1, "^;");
        Desk.faultAt(1, "^5;");
        Desk.faultAt(1, "^Slip 5;");
        Desk.faultAt(1, "^sli 5;");
        Desk.faultAt(1, "^sli");
        Desk.faultAt(1, "slip 5;^sli");
        Desk.faultAt(1, "slip 5 ^:");
        Desk.faultAt(1, "slip ^five;");
        Desk.faultAt(1, "slip 5 ^to 6;");
        Desk.faultAt(1, "zig z ^fro");
        Desk.faultAt(1, "zig z ^fromage 0 to 1 by 1 at 0 up;");
        Desk.faultAt(1, "zig z from 0 to 1 by 1 at 0 ^u");
        Desk.faultAt(1, "zig z from 0 to 1 by 1 at 0 up ^5;");
        Desk.faultAt(1, "ring r of 2 at 0 by 1^,");
        Desk.faultAt(1, "ring r of 2 at 0 by ^+1;");
        Desk.faultAt(1, "ring r of 2 at 0 by 1+^-1;");
        Desk.faultAt(1, "sum s ^= 1;");
        Desk.faultAt(1, "sum s is 1^<2;");
        Desk.faultAt(1, "sum s is 1 ^or 2;");
        Desk.faultAt(1, "sum s is (1^;");
        Desk.faultAt(1, "sum s is (^);");
        Desk.faultAt(1, "sum s is (1^,2);");
        Desk.faultAt(1, "sum s is min ^1;");
        Desk.faultAt(1, "sum s is min(1^);");
        Desk.faultAt(1, "sum s is min ^1,2);");
        Desk.faultAt(1, "sum s is min ^line,line);");
        Desk.faultAt(1, "sum s is min(^,line);");
        Desk.faultAt(1, "sum s is min(line ^line);");
        Desk.faultAt(1, "sum s is min(line,^);");
        Desk.faultAt(1, "sum s is ^)line);");
        Desk.faultAt(1, "sum s is min(^,2);");
        Desk.faultAt(1, "sum s is min(1 ^2);");
        Desk.faultAt(1, "sum s is min(1,^);");
        Desk.faultAt(1, "sum s is min(1,2^;");
        Desk.faultAt(1, "sum s is max(1,2^,3);");
        Desk.faultAt(1, "sum s is ^[1];");
        Desk.faultAt(1, "sum s is ^;");
        Desk.faultAt(1, "marks ^;");
        Desk.faultAt(1, "marks all or ^;");
        Desk.faultAt(1, "marks all and ^;");
        Desk.faultAt(1, "marks 1<^;");
        Desk.faultAt(1, "sum ^;");
        Desk.faultAt(1, "sum s is 1+^;");
        Desk.faultAt(1, "sum s is 1*^;");
    }

    /** Each way to go on once; behind a | the STATEMENT may end. */
    private static final String WHOLE = "zig z from 0 to 5 by 2 at 1 up | ; arc a of 9 at 0 to 4 fast 3 slow 2 | ; "
            + "ring r of 9 at 0 by z | - min ( a , prev ) | * 2 | + ( 3 ) | ; "
            + "sum s is ( r + 1 ) | / max ( line , 1 ) | ; "
            + "marks not s < 1 | and [ all or r = 2 ] | or r > 5 | and all | ; slip 50 | ;";

    private static void textEnds() {
        Desk.about = "at the text's length, if it ends too soon";
        String text = "";
        for (String part : WHOLE.split(" ")) {
            text = part.equals("|") ? text : text + part + " ";
            if (part.equals(";")) {
                good(text);
            } else {
                Desk.faultAt(1, text + "^");
                Desk.faultAt(1, text + " \n ^");
                Desk.faultAt(1, text.trim() + "^");
            }
            if (part.equals("|")) {
                good(text + ";");
            }
        }
    }

    private static void goesOnWithNone() {
        Desk.about = "1 the first byte with which no such text goes on: a sign that stands nowhere, a ; too early";
        String[] parts = WHOLE.split(" ");
        String text = "";
        for (int i = 0; i < parts.length; i++) {
            text = parts[i].equals("|") ? text : text + parts[i] + " ";
            for (char none : "?}!&|:~Z{".toCharArray()) {
                Desk.faultAt(1, text + "^" + none + " ;");
            }
            if (!parts[i].equals("|") && !(i + 1 < parts.length && parts[i + 1].equals("|"))) {
                Desk.faultAt(1, text + "^;");
                Desk.faultAt(1, text + "^;slip 5;");
            }
        }
    }

    private static void wordsWhole() {
        Desk.about = "words whole, at their first byte: another first, last letter, one more, one less";
        String[] parts = WHOLE.replace(" |", "").split(" ");
        String text = "";
        for (String part : parts) {
            if (part.length() > 1 && Character.isLetter(part.charAt(0))) {
                Desk.faultAt(1, text + "^q" + part.substring(1) + " ");
                Desk.faultAt(1, text + "^" + part.substring(0, part.length() - 1) + "q ");
                Desk.faultAt(1, text + "^" + part + "q ");
                Desk.faultAt(1, text + "^q" + part);
                Desk.faultAt(1, text + "^" + part.substring(1) + " ");
            }
            text = text + part + " ";
        }
    }

    private static void firstAlongTheText() {
        Desk.about = "FAULTS, the first along the text";
        Desk.faultAt(2, "slip ^101;slip x;");
        Desk.faultAt(1, "slip ^x;slip 101;");
        Desk.faultAt(2, "slip ^101x;");
        Desk.faultAt(3, "sum a is 1;zig ^a from 1000 to 5;");
        Desk.faultAt(2, "sum a is 1;zig b from ^1000 to 5;zig a");
        Desk.faultAt(4, "sum a is ((((((^(1))))))*x;sum a is 1;");
        Desk.faultAt(1, "sum a is ^x*(((((((1)))))));");
        Desk.faultAt(5, EIGHT + "^sum a is x;");
        Desk.faultAt(3, "sum b is 1;sum ^b is 1;" + EIGHT);
        Desk.faultAt(5, "marks all;^marks (((((((1)))))))=1;");
        Desk.faultAt(4, "marks [[[[[[^[all;marks all;");
        Desk.faultAt(1, "sum s is 1000^0*10000;");
    }

    private static void openAtOnce() {
        Desk.about = "4 the 7th of ( [ not that is open at once, at it";
        good("sum s is ((((((1))))));");
        Desk.faultAt(4, "sum s is ((((((^(1)))))));");
        Desk.faultAt(4, "sum s is ((((((1+2*^(1)))))));");
        good("sum s is min(min(min(min(min(min(1,2),3),4),5),6),7);");
        Desk.faultAt(4, "sum s is min(min(min(min(min(min(min^(1,2),3),4),5),6),7),8);");
        good("sum s is max(1,max(2,max(3,max(4,max(5,max(6,7))))));");
        Desk.faultAt(4, "sum s is max(1,max(2,max(3,max(4,max(5,max(6,max^(7,8)))))));");
        Desk.faultAt(1, "sum s is ((((((min ^1))))));");
        Desk.faultAt(4, "sum s is ((((((max  ^(1,2)))))));");
        good("ring r of 9 at 0 by ((((((1))))));");
        Desk.faultAt(4, "ring r of 9 at 0 by ((((((^(1)))))));");
        good("marks [[[[[[all]]]]]];");
        Desk.faultAt(4, "marks [[[[[[^[all]]]]]]];");
        good("marks not not not not not not all;");
        Desk.faultAt(4, "marks not not not not not not ^not all;");
        good("marks [not[not(min(1,2))=1]];");
        Desk.faultAt(4, "marks [not[not[(min^(1,2))=1]]];");
        good("marks [not[not[(1)=1]]];");
        good("marks ((((((1))))))=((((((1))))));");
        Desk.about = "open at once: those that are closed are open no more";
        good("sum s is ((((((1))))))+((((((1))))))*((((((1))))));");
        good("sum s is (((((min(1,2)))))+1)+max((((((1))))),2);");
        good("sum s is (1)+(1)+(1)+(1)+(1)+(1)+(1)+(1);");
        good("sum s is min((((((1))))),(((((2))))));");
        Desk.faultAt(4, "sum s is min((((((1))))),(((((^(2)))))));");
        good("marks [[[[[[all]]]]]] and [[[[[[all]]]]]] or [[[[[[all]]]]]];");
        good("marks [all] and [all] and [all] and [all] and [all] and [all] and [all];");
        Desk nested = Desk.with("sum s is 1+2*(1+2*(1+2*(1+2*(1+2*(1+2*(1+2*3))))));");
        nested.valuesDue(511);
    }

    private static void notUntilItsFactEnds() {
        Desk.about = "not until its FACT ends";
        good("marks not all and not all and not all and not all and not all and not all and not all;");
        good("marks not not not not not not all or not not not not not not all;");
        good("marks not not not not not (1)=1;");
        Desk.faultAt(4, "marks not not not not not not ^(1)=1;");
        Desk.faultAt(4, "marks not not not not not not 1=^(1);");
        good("marks not not not not not not 1=1 and (1)=1;");
        good("marks not not not not not [all];");
        Desk.faultAt(4, "marks not not not not not not ^[all];");
        good("marks [not all and [[[[[all]]]]]];");
        good("marks not [all] and [[[[[[all]]]]]];");
        Desk.faultAt(4, "marks not [[[[[^[all]]]]]];");
    }

    private static void tooMany() {
        Desk.about = "5 a 61st STATEMENT (whatever stands there), at its first byte";
        String sixty = "slip 1;".repeat(60);
        good(sixty + " \n ");
        Desk.faultAt(5, sixty + "^slip 1;");
        Desk.faultAt(5, sixty + " \n ^sum");
        Desk.faultAt(5, sixty + "^;");
        Desk.faultAt(5, sixty + "^5");
        Desk.faultAt(5, sixty + "^abcdefghijk");
        Desk.faultAt(5, sixty + "^\u00ff");
        Desk.faultAt(5, sixty + "^\t");
        Desk.faultAt(5, "slip 1;".repeat(59) + "marks all;^marks all;");
        Desk.faultAt(1, "slip 1;".repeat(59) + "^;");
        Desk.faultAt(1, "slip 1;".repeat(59) + "slip 1^");
    }

    private static void tabletIsTaken() {
        Desk.about = "promise 4: how many STATEMENTS (0 without); without a FAULT all is as at first; the seed stays";
        Desk d = Desk.with("ring r of 100 at 3 by 1;marks all;slip 100;");
        d.x.seed(0); // slips by 2, 2, 3
        d.x.chance(1);
        d.x.put(0, 50);
        d.find(0, 0, 0, 3);
        d.hasDue(1, 1, 1, 1, 1, 1, 2);
        Desk.due("tablet()", d.tell("ring r of 100 at 3 by 1;marks all;slip 100;"), 3);
        d.hasDue(1, 0, 1, 0, 0, 0, 0);
        d.valuesDue(3);
        Desk.due("undo()", d.x.undo(), false);
        d.x.chance(1);
        d.valuesDue(6);
        Desk.due("tablet() of nothing", d.tell(""), 0);
        d.hasDue(0, 0, 0, 0, 0, 0, 0);
        Desk.due("tablet() of blanks", d.tell("\n "), 0);
        Desk.due("the tape is gone", d.x.end(1), false);
        Desk.due("a full tape", d.tell(" ".repeat(1592) + "slip 10;"), 1);
        Desk.due("a full tape with a fault", d.tell(" ".repeat(1593) + "slip 10"), -1);
        d.faultDue("a full tape", 1, 1600);
    }

    private static final String[] UNLIKE = {
        "",
        "slip 100;marks all;",
        "zig z from 3 to 9 by 2 at 5 up;zig y from 3 to 9 by 2 at 5 up;zig x from 30 to 90 by 20 at 50 up;slip 40;",
        "arc a of 9 at 8 to 4 fast 3 slow 2;sum b is prev-line;ring c of 7 at 1 by prev+a;marks c>3;",
        "sum s is 1;",
        "sum s is 5;arc a of 9 at 2 to 4 fast 3 slow 2;sum abcdef is a;",
        "ring r of 9 at 1 by 1;ring q of 8 at 2 by 2;marks not all;",
    };

    /** Two objects tell the same to whatever is asked of columns and lines. */
    private static void likeDue(Desk got, Desk want) {
        for (int what = 0; what < 7; what++) {
            Desk.due("has(" + what + ")", got.x.has(what), want.x.has(what));
        }
        for (int c = 0; c < 4; c++) {
            for (int what = 0; what < 6; what++) {
                Desk.due("letter(" + c + ", " + what + ")", got.x.letter(c, what), want.x.letter(c, what));
                Desk.due("column(" + c + ", " + what + ")", got.x.column(c, what), want.x.column(c, what));
                Desk.due("value(" + c + ", " + what + ")", got.x.value(c, what), want.x.value(c, what));
                Desk.due("later(" + c + ", " + what + ")", got.x.later(c, what), want.x.later(c, what));
            }
            Desk.due("period(" + c + ")", got.x.period(c), want.x.period(c));
            Desk.due("odds(" + c + ")", got.x.odds(c), want.x.odds(c));
            Desk.due("differences(" + c + ", -1)", got.x.differences(c, -1), want.x.differences(c, -1));
        }
        for (int what = 0; what < 3; what++) {
            Desk.due("marks(9, " + what + ")", got.x.marks(9, what), want.x.marks(9, what));
            Desk.due("tells(" + what + ")", got.x.tells(what), want.x.tells(what));
        }
        Desk.due("fits(-1)", got.x.fits(-1), want.x.fits(-1));
        Desk.due("image()", got.x.image(), want.x.image());
        for (int k = 0; k < 35; k++) {
            Desk.due("octet(" + k + ")", got.x.octet(k), want.x.octet(k));
        }
    }

    private static void nothingOfTheTabletsAhead() {
        for (String one : UNLIKE) {
            for (String other : UNLIKE) {
                for (String third : UNLIKE) {
                    Desk.about = "promise 4: all is as at first behind " + one + " and " + other + " with " + third;
                    Desk d = Desk.with(one);
                    d.x.write(3);
                    d.tell(other);
                    d.x.chance(2);
                    d.tell(third);
                    d.x.seed(1);
                    likeDue(d, Desk.with(third));
                }
                Desk.about = "promise 4: all is as at first behind a fault in " + one + " with " + other;
                Desk d = new Desk();
                d.tell(one + "marks");
                d.tell(one + "sum is");
                d.ask("total value");
                d.tell(other);
                likeDue(d, Desk.with(other));
            }
        }
    }

    private static void tabletIsRefused() {
        Desk.about = "promise 4: NONE, refused (1), with a FAULT (all stays)";
        Desk d = Desk.with("zig z from 0 to 9 by 1 at 5 down;sum s is z*2;marks s>7;slip 10;");
        d.x.write(1);
        d.x.put(0, 7);
        d.find(1, 0, 0, 4);
        d.x.image();
        Desk.due("tablet()", d.tell("sum t is 4;marks not all;slip 90;sum u is"), -1);
        d.statusDue(1, 1);
        d.hasDue(2, 1, 1, 1, 1, 1, 2);
        d.valuesDue(7, 8);
        d.laterDue(0, 7, 6, 5);
        d.laterDue(1, 8, 12, 10);
        Desk.due("letter(0, 0)", d.x.letter(0, 0), 26);
        Desk.due("marks(3, 0)", d.x.marks(3, 0), 3);
        Desk.due("odds(1)", d.x.odds(1), 0);
        Desk.due("kept(0, 0)", d.x.kept(0, 0), 1);
        Desk.due("fits(0)", d.x.fits(0), 0);
        Desk.due("octet(1)", d.x.octet(1), 1);
        Desk.due("the tape is gone", d.x.end(1), false);
        Desk.due("undo()", d.x.undo(), true);
        d.valuesDue(4, 8);
    }

    private static void faultOfTheLatest() {
        Desk.about = "promise 5: of the latest tablet() or ask(): 0 without, and ahead of any; NONE without";
        Desk d = new Desk();
        d.faultDue("ahead of any", 0, -1);
        d.tell("slip 101;");
        d.faultDue("tablet()", 2, 5);
        d.ask("total x");
        d.faultDue("ask()", 1, 6);
        d.find(1);
        d.on(1);
        d.x.end(-1);
        d.x.write(0);
        d.faultDue("others are not told", 1, 6);
        for (int what : new int[] {-1, 2, 3, Integer.MIN_VALUE, Integer.MAX_VALUE}) {
            Desk.due("fault(" + what + ") behind a fault", d.x.fault(what), -1);
        }
        d.ask("total 1");
        d.faultDue("ask() without", 0, -1);
        d.tell("x");
        d.faultDue("tablet()", 1, 0);
        d.tell("");
        d.faultDue("tablet() without", 0, -1);
        for (int what : new int[] {-1, 2, 3, Integer.MIN_VALUE, Integer.MAX_VALUE}) {
            Desk.due("fault(" + what + ")", d.x.fault(what), -1);
        }
    }

    private static void longestTexts() {
        Desk.about = "a text may be as long as the tape";
        String text = "sum s is 1" + "+1".repeat(794) + " ;";
        Desk d = new Desk();
        for (int i = 0; i < 6; i++) { // 492 calls: what is kept of a text must not pile up
            Desk.due("tablet() of 1600 bytes", d.tell(text), 1);
            d.valuesDue(795);
        }
        Desk.with("marks " + "not ".repeat(3) + "[" + "1=1 and ".repeat(190) + "not all];  ").hasDue(0, 0, 1);
        Desk.with("marks all or " + "all and ".repeat(190) + "all;").hasDue(0, 0, 1);
        Desk.about = "all that can wait for one another waits";
        String deep = "1+1*min(9,".repeat(6) + "1" + ")".repeat(6);
        Desk.with("sum s is " + deep + ";").valuesDue(7);
        Desk.with("marks not all or all and 6<" + deep + ";").hasDue(0, 0, 1);
        Desk.with("marks not all or all and 7<" + deep + ";").hasDue(0, 0, 0);
        Desk.with("marks " + "not all or all and [".repeat(5) + "not all or all and 1<1+(2)" + "]".repeat(5) + ";")
                .hasDue(0, 0, 1);
    }

    private static void lettersOfNames() {
        Desk.about = "promise 7: letter k (0 .. 5): 1 .. 26; 0 behind it; NONE when there is none such";
        Desk d = Desk.with("sum azbycx is 1;sum z is 2;");
        int[] six = {1, 26, 2, 25, 3, 24};
        int[] one = {26, 0, 0, 0, 0, 0};
        for (int k = 0; k < 6; k++) {
            Desk.due("letter(0, " + k + ")", d.x.letter(0, k), six[k]);
            Desk.due("letter(1, " + k + ")", d.x.letter(1, k), one[k]);
            Desk.due("letter(2, " + k + ")", d.x.letter(2, k), -1);
            Desk.due("letter(-1, " + k + ")", d.x.letter(-1, k), -1);
        }
        for (int k : new int[] {-1, 6, Integer.MIN_VALUE, Integer.MAX_VALUE}) {
            Desk.due("letter(0, " + k + ")", d.x.letter(0, k), -1);
        }
        Desk.due("letter(MIN, 0)", d.x.letter(Integer.MIN_VALUE, 0), -1);
        Desk.due("letter(MAX, 0)", d.x.letter(Integer.MAX_VALUE, 0), -1);
        d.tell("sum b is 1;");
        Desk.due("a shorter name in the same place", d.x.letter(0, 1), 0);
        Desk.due("a column that is no more", d.x.letter(1, 0), -1);
    }

    private static void columnsAsked() {
        Desk.about = "promise 8: its sort, up (0 of others), the least, the greatest (0, 0 of a SUM); NONE for others";
        Desk d = Desk.with("zig z from 3 to 12 by 2 at 5 up;arc a of 9 at 2 to 4 fast 1 slow 1;"
                + "ring r of 7 at 0 by 1;sum s is 5;");
        int[][] due = {{0, 1, 3, 12}, {1, 0, 0, 8}, {2, 0, 0, 6}, {3, 0, 0, 0}, {-1, -1, -1, -1}};
        for (int c = 0; c < 5; c++) {
            for (int what = 0; what < 4; what++) {
                Desk.due("column(" + c + ", " + what + ")", d.x.column(c, what), due[c][what]);
            }
            for (int what : new int[] {-1, 4, Integer.MIN_VALUE, Integer.MAX_VALUE}) {
                Desk.due("column(" + c + ", " + what + ")", d.x.column(c, what), -1);
            }
        }
        Desk.due("column(-1, 0)", d.x.column(-1, 0), -1);
        Desk.due("column(MIN, 0)", d.x.column(Integer.MIN_VALUE, 0), -1);
        Desk.due("column(MAX, 0)", d.x.column(Integer.MAX_VALUE, 0), -1);
        Desk.due("column(8, 0) of eight", Desk.with(EIGHT).x.column(8, 0), -1);
        Desk.due("column(7, 0) of eight", Desk.with(EIGHT).x.column(7, 0), 3);
    }
}
