/** Texts of tablets and questions, and their faults (promises 4, 5, 7, 8, 29). */
public final class TextsTest {
    public static void main(String[] args) {
        goodTexts();
        namesAndColumns();
        firstFaults();
        numberFaults();
        nameFaults();
        deepFaults();
        tooManyFaults();
        sums();
        tests();
        questions();
        questionFaults();
        staysBehindFault();
        Desk.finish();
    }

    private static void goodTexts() {
        Desk.about = "promise 4, good texts";
        Desk.statementsDue("", 0);
        Desk.statementsDue(" \n ", 0);
        Desk.statementsDue("slip 0;slip 100;slip 0007;", 3);
        Desk.statementsDue("\nzig\na from 0 to 1 by 1 at 1 up ;", 1);
        Desk.statementsDue("zig a from 998 to 999 by 1 at 999 down;", 1);
        Desk.statementsDue("zig abcdef from 0 to 999 by 999 at 0 up;", 1);
        Desk.statementsDue("arc a of 4 at 3 to 2 fast 2 slow 2;", 1);
        Desk.statementsDue("arc a of 999 at 998 to 997 fast 997 slow 2;", 1);
        Desk.statementsDue("ring r of 2 at 1 by(prev)-line;ring s of 999 at 998 by r*9999;", 2);
        Desk.statementsDue("sum s is 1;marks s<1 or[s>2]and not[not[all]]or all;", 2);
    }

    private static void namesAndColumns() {
        Desk.about = "promises 7 and 8";
        Desk d = Desk.with("zig az from 3 to 12 by 2 at 5 down;arc first of 9 at 2 to 4 fast 1 slow 1;"
                + "ring total of 7 at 0 by 1;sum y is 5;");
        int[] first = {6, 9, 18, 19, 20, 0};
        for (int k = 0; k < 6; k++) {
            Desk.due("letter(1, " + k + ")", d.x.letter(1, k), first[k]);
        }
        Desk.due("letter(0, 0)", d.x.letter(0, 0), 1);
        Desk.due("letter(0, 1)", d.x.letter(0, 1), 26);
        Desk.due("letter(0, 5)", d.x.letter(0, 5), 0);
        Desk.due("letter(0, 6)", d.x.letter(0, 6), -1);
        Desk.due("letter(0, -1)", d.x.letter(0, -1), -1);
        Desk.due("letter(4, 0)", d.x.letter(4, 0), -1);
        Desk.due("letter(-1, 0)", d.x.letter(-1, 0), -1);
        int[][] columns = {{0, 0, 3, 12}, {1, 0, 0, 8}, {2, 0, 0, 6}, {3, 0, 0, 0}};
        for (int c = 0; c < 4; c++) {
            for (int what = 0; what < 4; what++) {
                Desk.due("column(" + c + ", " + what + ")", d.x.column(c, what), columns[c][what]);
            }
            Desk.due("column(" + c + ", 4)", d.x.column(c, 4), -1);
            Desk.due("column(" + c + ", -1)", d.x.column(c, -1), -1);
        }
        Desk.due("column(4, 0)", d.x.column(4, 0), -1);
        Desk.due("column(-1, 0)", d.x.column(-1, 0), -1);
        d.x.turn(0);
        Desk.due("column(0, 1) turned", d.x.column(0, 1), 1);
    }

    private static void firstFaults() {
        Desk.about = "promise 5, fault 1";
        Desk.tabletFault("x;", 1, 0);
        Desk.tabletFault(";", 1, 0);
        Desk.tabletFault("  zi", 1, 2);
        Desk.tabletFault("slip 5;;", 1, 7);
        Desk.tabletFault("slip 5; 7", 1, 8);
        Desk.tabletFault("slip", 1, 4);
        Desk.tabletFault("slip  ", 1, 6);
        Desk.tabletFault("slip 5", 1, 6);
        Desk.tabletFault("slip x;", 1, 5);
        Desk.tabletFault("slip5;", 1, 4);
        Desk.tabletFault("slip 5x;", 1, 6);
        Desk.tabletFault("slip 12345;", 1, 9);
        Desk.tabletFault("slip\t5;", 1, 4);
        Desk.tabletFault("Slip 5;", 1, 0);
        Desk.tabletFault("slip 5\u00e9", 1, 6);
        Desk.tabletFault("zig a fro 1", 1, 6);
        Desk.tabletFault("zig a fromx 1", 1, 6);
        Desk.tabletFault("zig a from1", 1, 10);
        Desk.tabletFault("zig a from 1to", 1, 12);
        Desk.tabletFault("zig a from 0 to 9 by 1 at 1;", 1, 27);
        Desk.tabletFault("zig a from 0 to 9 by 1 at 1 upp;", 1, 28);
        Desk.tabletFault("ring r of 9 at 0 by r", 1, 20);
        Desk.tabletFault("sum s is s;", 1, 9);
        Desk.tabletFault("sum s is abcdefghij;", 1, 9);
        Desk.tabletFault("sum s is at;", 1, 9);
        Desk.tabletFault("sum s is number;", 1, 9);
        Desk.tabletFault("sum s is 1 2;", 1, 11);
        Desk.tabletFault("sum s is 1+;", 1, 11);
        Desk.tabletFault("sum s is -1;", 1, 9);
        Desk.tabletFault("sum s is 12345;", 1, 13);
        Desk.tabletFault("sum s is min 1;", 1, 13);
        Desk.tabletFault("sum s is min(1);", 1, 14);
        Desk.tabletFault("sum s is max(1,2;", 1, 16);
        Desk.tabletFault("sum s is (1;", 1, 11);
        Desk.tabletFault("sum s is all;", 1, 9);
        Desk.tabletFault("marks 1;", 1, 7);
        Desk.tabletFault("marks prev=1;", 1, 6);
        Desk.tabletFault("marks 1=prev;", 1, 8);
        Desk.tabletFault("sum s is prev;marks prev=1;", 1, 20);
        Desk.tabletFault("ring r of 9 at 0 by prev;marks 1=1 and prev=1;", 1, 39);
        Desk.tabletFault("marks [1=1;", 1, 10);
        Desk.tabletFault("marks 1=1=1;", 1, 9);
        Desk.tabletFault("marks 1=1 or;", 1, 12);
        Desk.tabletFault("marks 1=1or all;", 1, 9);
        Desk.tabletFault("marks r=1;ring r of 9 at 0 by 1;", 1, 6);
    }

    private static void numberFaults() {
        Desk.about = "promise 5, fault 2";
        Desk.tabletFault("slip 101;", 2, 5);
        Desk.tabletFault("slip 101x", 2, 5);
        Desk.tabletFault("zig a from 1000 to", 2, 11);
        Desk.tabletFault("zig a from 999 to 999", 2, 18);
        Desk.tabletFault("zig a from 5 to 5", 2, 16);
        Desk.tabletFault("zig a from 5 to 1000", 2, 16);
        Desk.tabletFault("zig a from 5 to 9 by 0", 2, 21);
        Desk.tabletFault("zig a from 5 to 9 by 5", 2, 21);
        Desk.tabletFault("zig a from 5 to 9 by 4 at 4", 2, 26);
        Desk.tabletFault("zig a from 5 to 9 by 4 at 10", 2, 26);
        Desk.tabletFault("arc a of 3", 2, 9);
        Desk.tabletFault("arc a of 1000", 2, 9);
        Desk.tabletFault("arc a of 9 at 9", 2, 14);
        Desk.tabletFault("arc a of 9 at 8 to 1", 2, 19);
        Desk.tabletFault("arc a of 9 at 8 to 8", 2, 19);
        Desk.tabletFault("arc a of 9 at 8 to 7 fast 0", 2, 26);
        Desk.tabletFault("arc a of 9 at 8 to 7 fast 8", 2, 26);
        Desk.tabletFault("arc a of 9 at 8 to 7 fast 7 slow 0", 2, 33);
        Desk.tabletFault("arc a of 9 at 8 to 7 fast 7 slow 3", 2, 33);
        Desk.tabletFault("ring a of 1", 2, 10);
        Desk.tabletFault("ring a of 1000", 2, 10);
        Desk.tabletFault("ring a of 2 at 2", 2, 15);
    }

    private static void nameFaults() {
        Desk.about = "promise 5, names";
        Desk.tabletFault("zig at", 1, 4);
        Desk.tabletFault("sum number is 1;", 1, 4);
        Desk.tabletFault("sum 5", 1, 4);
        Desk.tabletFault("sum", 1, 3);
        Desk.tabletFault("sum abcdefg", 1, 10);
        Desk.tabletFault("sum abcdefgh5", 1, 10);
        Desk.tabletFault("sum ab is 1;sum ab", 3, 16);
        Desk.tabletFault("sum ab is 1;zig ab", 3, 16);
        Desk.statementsDue("sum ab is 1;sum a is 1;sum abc is ab;sum ats is 1;sum o is 1;", 5);
        String own = "zig arc ring sum from to by at up down of fast slow is marks slip line prev number sort value"
                + " drift ahead col or and not all min max";
        for (String word : own.split(" ")) {
            Desk.tabletFault("sum " + word + " is 1;", 1, 4);
        }
    }

    private static void deepFaults() {
        Desk.about = "promise 5, fault 4";
        Desk.statementsDue("sum s is ((((((1))))));", 1);
        Desk.tabletFault("sum s is (((((((1)))))));", 4, 15);
        Desk.statementsDue("sum s is ((((((1))))))+((((((1))))));", 1);
        Desk.statementsDue("sum s is min(((((max(1,2))))),1);", 1);
        Desk.tabletFault("sum s is min((((((max(1,2)))))),1);", 4, 21);
        Desk.statementsDue("marks not not not not not not all;", 1);
        Desk.tabletFault("marks not not not not not not not all;", 4, 30);
        Desk.statementsDue("marks not not not not not not all and not not all;", 1);
        Desk.statementsDue("marks [[[not[[1=1]]]]];", 1);
        Desk.tabletFault("marks [[[not[[(1)=1]]]]];", 4, 14);
        Desk.tabletFault("marks [[[not[[1=(1)]]]]];", 4, 16);
        Desk.tabletFault("marks [[[[[[[", 4, 12);
        Desk.tabletFault("marks [[[[[[not", 4, 12);
    }

    private static void tooManyFaults() {
        Desk.about = "promise 5, fault 5";
        String eight = "";
        for (char c = 'a'; c < 'i'; c++) {
            eight += "sum " + c + " is 1;";
        }
        Desk.statementsDue(eight, 8);
        Desk.tabletFault(eight + " zig5", 5, eight.length() + 1);
        Desk.tabletFault(eight + "sum a", 5, eight.length());
        Desk.tabletFault("marks all; marks", 5, 11);
        String sixty = "slip 1;".repeat(60);
        Desk.statementsDue(sixty, 60);
        Desk.statementsDue(sixty + "\n ", 60);
        Desk.tabletFault(sixty + " ?", 5, 421);
        Desk.tabletFault(sixty + "abc", 5, 420);
        Desk.tabletFault(sixty + ";", 5, 420);
    }

    private static void sumDue(String sum, long want) {
        Desk d = Desk.with("ring a of 99 at 7 by 1;ring b of 9 at 3 by 0;sum s is " + sum + ";");
        Desk.due(sum, d.x.value(2, 0), want);
    }

    private static void sums() {
        Desk.about = "promise 4, sums";
        sumDue("1+2*3", 7);
        sumDue("9-2-3", 4);
        sumDue("(1+2)*3", 9);
        sumDue("100/7/2*3", 21);
        sumDue("0-7/2", -3);
        sumDue("(0-7)/2", -4);
        sumDue("7/(0-2)", -4);
        sumDue("(0-7)/(0-2)", 3);
        sumDue("5/0", 0);
        sumDue("a*b+line+prev", 21);
        sumDue("9999*9999", 1000000);
        sumDue("0-9999*9999", -1000000);
        sumDue("(0-9999)*9999", -1000000);
        sumDue("9999*9999+5", 1000000);
        sumDue("9999*9999+5-5", 999995);
        sumDue("0-9999*9999-5+5", -999995);
        sumDue("min(a,b)+10*max(a,b)", 73);
        sumDue("min(5,0-5)", -5);
        sumDue("0012", 12);
    }

    private static void testDue(String test, boolean want) {
        Desk d = Desk.with("ring a of 99 at 7 by 1;ring b of 9 at 3 by 0;marks " + test + ";");
        Desk.due(test, d.x.has(2), want ? 1 : 0);
    }

    private static void tests() {
        Desk.about = "promise 4, tests";
        testDue("all", true);
        testDue("not all", false);
        testDue("a>b", true);
        testDue("a<b", false);
        testDue("a=b", false);
        testDue("a=7", true);
        testDue("a>7", false);
        testDue("a<7", false);
        testDue("all or not all and not all", true);
        testDue("[all or not all] and not all", false);
        testDue("not all or all", true);
        testDue("not [all or all]", false);
        testDue("not a=7 and all", false);
        testDue("not a=8 and a=7", true);
        testDue("not not all", true);
        testDue("line=0", true);
        testDue("a=8 or b=4 or a=7", true);
    }

    private static void questions() {
        Desk.about = "promise 29";
        Desk d = Desk.with("zig z from 0 to 9 by 2 at 3 up;arc a of 10 at 0 to 5 fast 3 slow 2;"
                + "ring r of 7 at 5 by 3;sum s is r-9;");
        d.x.write(2); // z 7, a 5, r 4, s -5
        d.x.put(2, 6);
        Desk.due("first", d.ask("first value>4"), 0);
        Desk.due("first", d.ask("first value<6"), 1);
        Desk.due("last", d.ask("last value>4"), 2);
        Desk.due("last", d.ask(" last value=0-5 \n"), 3);
        Desk.due("last", d.ask("last value=99"), -1);
        Desk.due("first", d.ask("first not all"), -1);
        Desk.due("often", d.ask("often value>4"), 3);
        Desk.due("often", d.ask("often not all"), 0);
        Desk.due("total", d.ask("total value"), 13);
        Desk.due("total", d.ask("total number*10+sort"), 66);
        Desk.due("total", d.ask("total 9999*9999"), 4000000);
        Desk.due("most", d.ask("most value"), 7);
        Desk.due("least", d.ask("least value"), -5);
        Desk.due("most", d.ask("most 0-5"), -5);
        Desk.due("line", d.ask("most line"), 2);
        Desk.due("drift", d.ask("most drift"), 2);
        Desk.due("drift", d.ask("least drift"), 0);
        // z 9, a 7, r 2, s -7 in the next line
        Desk.due("ahead", d.ask("total ahead 1"), 11);
        Desk.due("ahead binds to its part", d.ask("total ahead 1+1"), 15);
        Desk.due("ahead 0", d.ask("total ahead(0)"), 13);
        Desk.due("ahead 201", d.ask("total ahead 201"), 0);
        Desk.due("ahead below 0", d.ask("total ahead(0-1)"), 0);
        Desk.due("col", d.ask("total col number"), 13);
        Desk.due("col", d.ask("most col 1"), 5);
        Desk.due("col none", d.ask("total col 4"), 0);
        Desk.due("col none", d.ask("total col(0-1)"), 0);
        Desk.due("col of col", d.ask("most col(col 1-3)"), 6);
        Desk.due("ahead col", d.ask("least ahead min(1,col 0)"), -7);
        Desk.due("fault(0)", d.x.fault(0), 0);
        Desk.due("fault(1)", d.x.fault(1), -1);
        Desk.due("refused", d.x.status(1), 0);
        Desk bare = new Desk();
        Desk.due("most without columns", bare.ask("most 5"), 0);
        Desk.due("least without columns", bare.ask("least 5"), 0);
        Desk.due("total without columns", bare.ask("total 5"), 0);
        Desk.due("last without columns", bare.ask("last all"), -1);
        Desk far = Desk.with("ring r of 7 at 0 by 1;");
        far.onSealed(799 / 256, 799 % 256, 15, 66, 64, 0);
        Desk.due("ahead to line 999", far.ask("total ahead 200"), 4);
        far.x.write(1);
        Desk.due("ahead beyond line 999", far.ask("total ahead 200"), 0);
        Desk steep = Desk.with("sum s is prev-9999*9999;");
        steep.x.write(1);
        steep.onSealed(0, 1, 30, 132, 128, 0);
        Desk.due("drift is held", steep.ask("total drift"), 1000000);
    }

    private static void questionFaults() {
        Desk.about = "promises 5 and 29, faults of questions";
        Desk.questionFault("", 1, 0);
        Desk.questionFault("  ", 1, 2);
        Desk.questionFault("sum 5", 1, 0);
        Desk.questionFault("firstly all", 1, 0);
        Desk.questionFault("first", 1, 5);
        Desk.questionFault("first all;", 1, 9);
        Desk.questionFault("first all first", 1, 10);
        Desk.questionFault("total 5 5", 1, 8);
        Desk.questionFault("total r", 1, 6);
        Desk.questionFault("total prev", 1, 6);
        Desk.questionFault("total values", 1, 6);
        Desk.questionFault("total 12345", 1, 10);
        Desk.questionFault("total 5=5", 1, 7);
        Desk.questionFault("often value", 1, 11);
        Desk.questionFault("total ahead", 1, 11);
        Desk.questionFault("total ahead5", 1, 11);
        Desk.questionFault("total ahead ahead ahead ahead ahead ahead ahead 1", 4, 42);
        Desk.questionFault("total col col col(col col col 1)", 4, 26);
        Desk.questionFault("often [[[[[[ahead 1=1]]]]]]", 4, 12);
        Desk.questionFault("often not not not not not not col 1=1", 4, 30);
        Desk d = Desk.with("ring r of 9 at 4 by 1;");
        Desk.due("six open", d.ask("total ahead col ahead(min(max(1,2),3))*0+1"), 1);
        Desk.due("closed again", d.ask("total col col col col col col 0+col col col col col col 0"), 0);
        Desk.due("a fault", d.ask("total x"), ZigzagTablets.NOTHING);
        d.tell("");
        d.faultDue("the tablet behind it", 0, -1);
        Desk.due("fault(2)", d.x.fault(2), -1);
        Desk.due("fault(-1)", d.x.fault(-1), -1);
        Desk.due("a new object's fault(0)", new Desk().x.fault(0), 0);
        Desk.due("a new object's fault(1)", new Desk().x.fault(1), -1);
    }

    private static void staysBehindFault() {
        Desk.about = "promise 4, what stays";
        Desk d = Desk.with("zig z from 0 to 9 by 2 at 3 up;marks all;slip 30;");
        d.x.write(3);
        d.find(0, 0, 0, 3);
        Desk.due("tablet()", d.tell("zig z from 0 to 9 by 1 at 1 up"), -1);
        int[] has = {1, 3, 1, 0, 3, 1, 1};
        for (int what = 0; what < has.length; what++) {
            Desk.due("has(" + what + ") behind a fault", d.x.has(what), has[what]);
        }
        Desk.due("value(0, 0)", d.x.value(0, 0), 9);
        Desk.due("odds(0)", d.x.odds(0), 900 - 270);
        d.x.seed(5);
        Desk.due("tablet()", d.tell("ring r of 100 at 0 by 0;slip 100;"), 2);
        int[] anew = {1, 0, 0, 0, 0, 0, 0};
        for (int what = 0; what < anew.length; what++) {
            Desk.due("has(" + what + ") anew", d.x.has(what), anew[what]);
        }
        Desk other = Desk.with("ring r of 100 at 0 by 0;slip 100;");
        other.x.seed(5);
        other.x.chance(4);
        d.x.chance(4);
        Desk.due("the seed stays", d.x.value(0, 0), other.x.value(0, 0));
        Desk.due("tablet() without text", d.tell(""), 0);
        Desk.due("has(0)", d.x.has(0), 0);
        Desk.due("refused", d.x.status(1), 1);
    }
}
