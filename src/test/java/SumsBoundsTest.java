/** Whole numbers, sums and tests, sentence by sentence: each bound, and one beyond it. */
public final class SumsBoundsTest {
    private static final Check CHECK = new Check();
    private static final int LEAST = Integer.MIN_VALUE;
    private static final int MOST = Integer.MAX_VALUE;
    private static final int[] NUMBERS = {LEAST, LEAST + 1, -65536, -46341, -8, -7, -2, -1, 0, 1, 2, 7, 8, 46340, 46341,
        65536, 999999, MOST - 1, MOST};
    private static final String TWO = "parish a;parish b;notice n;notice m;"
            + "road ab from a to b days 1;road ba from b to a days 1;";

    public static void main(String[] args) {
        sumsThatWrap();
        cutTowardsZero();
        zeroOnTheRight();
        leastByMinusOne();
        turning();
        leastAndMost();
        comparisons();
        fromLeftToRight();
        andBindsMoreThanOr();
        andBindsLessThanNot();
        day();
        valueOfTheFirst();
        sheetsShown();
        differentMarks();
        sheetsThatWait();
        tornByTwo();
        knownByAny();
        CHECK.end("SumsBoundsTest");
    }

    private static boolean holds(String test) {
        ParishBoards boards = Check.taught(TWO + "write a m as 1 when " + test + ";");
        boards.pass(1);
        return boards.count(11) == 1;
    }

    private static void test(String test, boolean due) {
        CHECK.is("test " + test, holds(test), due);
    }

    /** The number in the language, told so that nothing in it wraps around. */
    private static String told(int number) {
        int high = number >> 16;
        return "(" + (high < 0 ? "-" : "") + Math.abs(high) + "*65536+" + (number & 65535) + ")";
    }

    /** The sum comes to just this number, and to none beside it. */
    private static void sum(String sum, int due) {
        String wide = sum + "=" + told(due) + " and not " + sum + "=" + told(due + 1) + " and not " + sum + "="
                + told(due - 1);
        test(wide, true);
        // The order of two sums tells the same without =.
        test(sum + "<" + told(due) + " or " + sum + ">" + told(due), false);
    }

    // ---- Terms: numbers

    private static void sumsThatWrap() {
        CHECK.sentence("sums, differences and products of the language wrap around in 32 bits");
        for (int a : NUMBERS) {
            for (int b : NUMBERS) {
                sum(told(a) + "+" + told(b), a + b);
                sum(told(a) + "-" + told(b), a - b);
                sum(told(a) + "*" + told(b), a * b);
            }
        }
        sum("(32767*65536+65535+1)", LEAST);
        sum("(-32768*65536-1)", MOST);
        sum("(65536*65536)", 0);
        sum("(65536*32768)", LEAST);
        sum("(46341*46341)", -2147479015);
        sum("(999999*999999)", -729379967);
    }

    private static void cutTowardsZero() {
        CHECK.sentence("/ is cut towards 0");
        for (int a : NUMBERS) {
            for (int b : NUMBERS) {
                if (b != 0 && (a != LEAST || b != -1)) {
                    sum(told(a) + "/" + told(b), (int) ((long) a / b));
                }
            }
        }
        sum("(-7)/2", -3);
        sum("7/-2", -3);
        sum("(-7)/-2", 3);
        sum("(-1)/2", 0);
    }

    private static void zeroOnTheRight() {
        CHECK.sentence("gives 0 with 0 on the right side");
        for (int a : NUMBERS) {
            sum(told(a) + "/0", 0);
            sum(told(a) + "/(day*7)", 0);
            sum(told(a) + "/1", a);
        }
        sum("5/0+3", 3);
        sum("0/0", 0);
        sum("6/0*0/0", 0);
    }

    private static void leastByMinusOne() {
        CHECK.sentence("-2147483648 / -1 gives -2147483648");
        sum("(-32768*65536)/-1", LEAST);
        sum("(-32768*65536+1)/-1", MOST);
        sum("(-32768*65536)/1", LEAST);
        sum("(-32768*65536)/-2", 1073741824);
        sum("(-32768*65536)/-1/-1", LEAST);
    }

    private static void turning() {
        CHECK.sentence("\"-\" value");
        for (int a : NUMBERS) {
            sum("-" + told(a), -a);
            sum("--" + told(a), a);
        }
        sum("-2*3", -6);
        sum("-7+9", 2);
        sum("9--7", 16);
        sum("-7/2", -3);
    }

    private static void leastAndMost() {
        CHECK.sentence("( \"min\" | \"max\" ) \"(\" sum \",\" sum \")\"");
        for (int a : NUMBERS) {
            for (int b : NUMBERS) {
                sum("min(" + told(a) + "," + told(b) + ")", Math.min(a, b));
                sum("max(" + told(a) + "," + told(b) + ")", Math.max(a, b));
            }
        }
        sum("min(1+1,2*2)*max(1,3)", 6);
    }

    private static void comparisons() {
        CHECK.sentence("sum ( \"<\" | \">\" | \"=\" | \"<=\" | \">=\" ) sum");
        for (int a : NUMBERS) {
            for (int b : NUMBERS) {
                test(told(a) + "<" + told(b), a < b);
                test(told(a) + ">" + told(b), a > b);
                test(told(a) + "=" + told(b), a == b);
                test(told(a) + "<=" + told(b), a <= b);
                test(told(a) + ">=" + told(b), a >= b);
            }
        }
    }

    private static void fromLeftToRight() {
        CHECK.sentence("sum = product { ( \"+\" | \"-\" ) product } product = value { ( \"*\" | \"/\" ) value }");
        sum("20-3-4", 13);
        sum("20-3+4", 21);
        sum("100/7/2", 7);
        sum("7/2*2", 6);
        sum("2*7/2", 7);
        sum("2+3*4", 14);
        sum("2*3+4", 10);
        sum("20-6/4", 19);
        sum("(20-6)/4", 3);
        sum("2*(3+4)", 14);
        sum("20-(3-4)", 21);
        sum("100/(7/2)", 33);
        sum("1+2-3*4/5", 1);
    }

    private static String side(int bits, int bit) {
        return (bits >> bit & 1) == 1 ? "1=1" : "1=2";
    }

    private static void andBindsMoreThanOr() {
        CHECK.sentence("and binds more than or");
        for (int bits = 0; bits < 16; bits++) {
            String first = side(bits, 0);
            String second = side(bits, 1);
            String third = side(bits, 2);
            boolean a = (bits & 1) != 0;
            boolean b = (bits & 2) != 0;
            boolean c = (bits & 4) != 0;
            boolean d = (bits & 8) != 0;
            test(first + " or " + second + " and " + third, a || b && c);
            test(first + " and " + second + " or " + third, a && b || c);
            test(first + " and " + second + " or " + third + " and " + side(bits, 3), a && b || c && d);
            test(first + " or " + second + " or " + third, a || b || c);
            test(first + " and " + second + " and " + third, a && b && c);
            test("[" + first + " or " + second + "] and " + third, (a || b) && c);
            test(first + " and [" + second + " or " + third + "]", a && (b || c));
        }
    }

    private static void andBindsLessThanNot() {
        CHECK.sentence("and binds more than or, not more than and.");
        for (int bits = 0; bits < 4; bits++) {
            String first = side(bits, 0);
            String second = side(bits, 1);
            boolean a = (bits & 1) != 0;
            boolean b = (bits & 2) != 0;
            test("not " + first + " and " + second, !a && b);
            test("not " + first + " or " + second, !a || b);
            test(first + " and not " + second, a && !b);
            test("not [" + first + " and " + second + "]", !(a && b));
            test("not not " + first, a);
            test("not not not " + first, !a);
            test("not not not not not not not not " + first, a);
        }
    }

    // ---- what is told of the day and of boards

    private static void day() {
        CHECK.sentence("In tests and sums day is the day");
        ParishBoards boards = Check.taught(TWO + "write a n as day when day=0 or day=1 or day=59 or day=60;");
        boards.pass(60);
        CHECK.is("sheets behind day 59", boards.count(5), 3);
        boards.pass(2);
        CHECK.is("sheets behind day 61", boards.count(5), 4);
        int[] due = {0, 1, 59, 60};
        for (int i = 0; i < due.length; i++) {
            CHECK.is("value of " + i, boards.sheet(i, 2), due[i]);
            CHECK.is("day of " + i, boards.sheet(i, 4), due[i]);
        }
    }

    /** The last parish shows a sheet of n of each of so many parishes; on day 2 it writes the sum if the test holds. */
    private static ParishBoards shownAtTheLast(int sheets, String sum, String test) {
        StringBuilder text = new StringBuilder("notice n;notice m;");
        for (int p = 0; p < 5; p++) {
            text.append("parish p").append(p).append(";");
        }
        for (int p = 0; p < 4; p++) {
            text.append("road r").append(p).append(" from p").append(p).append(" to p4 days 1;");
        }
        ParishBoards boards = Check.taught(text + "write p4 m as " + sum + " when day=2 and " + test + ";");
        // The sheet of the first parish is the last that is made.
        for (int p = sheets - 1; p >= 0; p--) {
            boards.write(p, 0, 1000 + p);
            boards.note(p, 0, 2 * p);
            boards.note(p, 0, 15);
            if (p < 4) {
                boards.send(p);
            }
        }
        boards.pass(3);
        return boards;
    }

    private static int onTheThirdDay(int sheets, String sum) {
        ParishBoards boards = shownAtTheLast(sheets, sum, "1=1");
        return boards.sheet(3 * sheets, 2);
    }

    private static boolean holdsOnTheThirdDay(int sheets, String test) {
        return shownAtTheLast(sheets, "1", test).count(11) == 1;
    }

    private static void valueOfTheFirst() {
        CHECK.sentence("value the value of the first sheet that the board of the parish shows of the notice (0"
                + " without any)");
        CHECK.is("without any", onTheThirdDay(0, "value p4 n"), 0);
        CHECK.is("without any, and 3", onTheThirdDay(0, "value p4 n+3"), 3);
        CHECK.is("without any, in a test", holdsOnTheThirdDay(0, "value p4 n=0"), true);
        for (int sheets = 1; sheets <= 5; sheets++) {
            CHECK.is("of " + sheets, onTheThirdDay(sheets, "value p4 n"), 1000);
        }
        CHECK.is("of another notice", onTheThirdDay(3, "value p4 m"), 0);
        CHECK.is("of another board", onTheThirdDay(3, "value p2 n"), 1002);
        CHECK.is("of a board without any", onTheThirdDay(3, "value p3 n"), 0);
    }

    private static void sheetsShown() {
        CHECK.sentence("sheets how many it shows");
        for (int sheets = 0; sheets <= 5; sheets++) {
            CHECK.is("sheets of " + sheets, onTheThirdDay(sheets, "sheets p4 n"), sheets);
            CHECK.is("sheets of another notice of " + sheets, onTheThirdDay(sheets, "sheets p4 m"), 0);
            CHECK.is("at the first board, of " + sheets, onTheThirdDay(sheets, "sheets p0 n"), Math.min(sheets, 1));
        }
    }

    private static void differentMarks() {
        CHECK.sentence("marks how many different marks are in the margins of all that it shows");
        for (int sheets = 0; sheets <= 5; sheets++) {
            // Each has one of its own, and all of them have 15.
            CHECK.is("marks of " + sheets, onTheThirdDay(sheets, "marks p4 n"), sheets == 0 ? 0 : sheets + 1);
        }
        ParishBoards all = Check.taught(TWO + "note a n with day when day<17;write a m as marks a n when 1=1;");
        all.write(0, 0, 1);
        all.pass(20);
        for (int day = 0; day < 20; day++) {
            int noted = Math.min(day + 1, 16);
            CHECK.is("marks on day " + day, all.sheet(noted + day + 1, 2), noted);
        }
    }

    private static void sheetsThatWait() {
        CHECK.sentence("waits how many sheets wait at the parish, of all notices");
        ParishBoards boards = Check.taught(TWO + "write a n as waits b when day=2;write a n as waits a+7 when day=2;"
                + "write a n as waits b when day=9;write a n as waits b when day=10;");
        boards.setDays(0, 9);
        boards.write(0, 0, 1);
        boards.send(0);
        boards.setDays(0, 1);
        boards.write(0, 0, 2);
        boards.write(0, 1, 3);
        boards.note(0, 1, 3);
        boards.send(0);
        boards.pass(11);
        CHECK.is("at b, of both notices", boards.sheet(4, 2), 3);
        CHECK.is("at a, where none waits", boards.sheet(5, 2), 7);
        CHECK.is("on the day that brings the first, ahead of it", boards.sheet(6, 2), 3);
        CHECK.is("on the day behind it", boards.sheet(7, 2), 0);
    }

    private static void tornByTwo() {
        CHECK.sentence("torn holds, if the board shows two or more");
        for (int sheets = 0; sheets <= 5; sheets++) {
            CHECK.is("torn by " + sheets, holdsOnTheThirdDay(sheets, "torn p4 n"), sheets >= 2);
            CHECK.is("not torn by " + sheets, holdsOnTheThirdDay(sheets, "not torn p4 n"), sheets < 2);
            CHECK.is("another notice by " + sheets, holdsOnTheThirdDay(sheets, "torn p4 m"), false);
            CHECK.is("another board by " + sheets, holdsOnTheThirdDay(sheets, "torn p0 n"), false);
        }
    }

    private static void knownByAny() {
        CHECK.sentence("known, if it shows any");
        for (int sheets = 0; sheets <= 5; sheets++) {
            CHECK.is("known by " + sheets, holdsOnTheThirdDay(sheets, "known p4 n"), sheets >= 1);
            CHECK.is("not known by " + sheets, holdsOnTheThirdDay(sheets, "not known p4 n"), sheets == 0);
            CHECK.is("another notice by " + sheets, holdsOnTheThirdDay(sheets, "known p4 m"), false);
            CHECK.is("the board of p3 by " + sheets, holdsOnTheThirdDay(sheets, "known p3 n"), sheets > 3);
        }
    }
}
