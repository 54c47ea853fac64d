/** Promises 19 to 25, and the order of a day: orders, tests and sums, what would be, and advice. */
public final class DaysTest {
    private static final Check CHECK = new Check();
    private static final String TWO = "parish a;parish b;notice n;notice m;"
            + "road ab from a to b days 1;road ba from b to a days 1;";
    private static final String THREE = "parish a;parish b;parish c;notice n;"
            + "road ab from a to b days 1;road bc from b to c days 1;road ac from a to c days 3;";

    public static void main(String[] args) {
        passing();
        writeOrders();
        noteOrders();
        mergeOrders();
        sendOrders();
        sumsAndTests();
        whatBoardsAnswer();
        orderOfTheDay();
        fullOfSheets();
        foreseeing();
        until();
        alike();
        missed();
        advising();
        mean();
        CHECK.end("DaysTest");
    }

    private static void passing() {
        ParishBoards boards = Check.taught(TWO);
        for (int wrong : new int[] {0, -1, 61, Integer.MIN_VALUE, Integer.MAX_VALUE}) {
            CHECK.noArgument("pass " + wrong, () -> boards.pass(wrong));
        }
        CHECK.is("no day has gone by", boards.count(0), 0);
        CHECK.is("pass 60", boards.pass(60), 0);
        CHECK.is("60 days", boards.count(0), 60);
        boards.write(0, 0, 1);
        boards.write(0, 0, 2);
        boards.send(0);
        CHECK.is("nothing comes on the day of the sending", boards.pass(1), 0);
        CHECK.is("two are hung", boards.pass(1), 2);
        CHECK.is("the day", boards.count(0), 62);
        CHECK.is("hung in all", boards.count(9), 2);
        boards.write(0, 0, 3);
        boards.send(0);
        CHECK.is("one more is hung", boards.pass(9), 1);
        CHECK.is("hung in all then", boards.count(9), 3);
        CHECK.is("days without parishes", new ParishBoards().pass(60), 0);
    }

    /** The value that is written on the day 0 as the sum tells. */
    private static int written(String sum) {
        ParishBoards boards = Check.taught(TWO + "write a n as " + sum + " when 1=1;");
        boards.pass(1);
        return boards.sheet(0, 2);
    }

    private static void writeOrders() {
        CHECK.is("held at 0", written("0-1"), 0);
        CHECK.is("held at 9999", written("10000"), 9999);
        CHECK.is("9999", written("9999"), 9999);
        CHECK.is("far too great", written("999999*1000"), 9999);
        CHECK.is("far too small", written("-999999*1000"), 0);
        ParishBoards boards = Check.taught(TWO + "write a n as day + 5 when day > 1 and day < 4;");
        boards.pass(10);
        CHECK.is("two are written", boards.count(5), 2);
        CHECK.is("two orders carried out", boards.count(11), 2);
        CHECK.is("the first one's day", boards.sheet(0, 4), 2);
        CHECK.is("the second one's value", boards.sheet(1, 2), 8);
        CHECK.is("written", boards.sheet(1, 5), 0);
    }

    private static void noteOrders() {
        ParishBoards boards = Check.taught(TWO + "note a n with day - 2 when not day = 4;");
        boards.pass(1);
        CHECK.is("no sheet to note", boards.count(11), 0);
        boards.write(0, 0, 6);
        boards.pass(1);
        CHECK.is("no mark -1", boards.count(5), 1);
        boards.pass(18);
        CHECK.is("marks 0 to 15 but 2", boards.count(11), 15);
        CHECK.is("the margin", boards.sheet(15, 3), 65535 - 4);
        CHECK.is("the value", boards.sheet(15, 2), 6);
        CHECK.is("noted", boards.sheet(15, 5), 1);
        boards.pass(5);
        CHECK.is("no mark 16", boards.count(11), 15);
        ParishBoards same = Check.taught(TWO + "note a n with 3 when 1=1;");
        same.write(0, 0, 1);
        same.pass(5);
        CHECK.is("a mark is not noted twice", same.count(5), 2);
        CHECK.is("one order carried out", same.count(11), 1);
        same.write(0, 0, 2);
        same.pass(1);
        CHECK.is("nor in a margin that has it", same.count(5), 3);
        ParishBoards torn = Check.taught(TWO + "note b n with 3 when day = 2;");
        torn.write(0, 0, 1);
        torn.write(1, 0, 1);
        torn.send(0);
        torn.pass(5);
        CHECK.is("none is noted where it is torn", torn.count(11), 0);
    }

    private static void mergeOrders() {
        for (int way = 0; way < 3; way++) {
            String by = new String[] {"least", "most", "sum"}[way];
            ParishBoards boards = Check.taught(TWO + "merge b n by " + by + ";merge b m by " + by + " when day > 3;");
            boards.write(0, 0, 10);
            boards.write(1, 0, 20);
            boards.write(0, 1, 6000);
            boards.write(1, 1, 5000);
            boards.send(0);
            boards.pass(2);
            CHECK.is("torn on day 2", boards.count(8), 2);
            boards.pass(1);
            CHECK.is("merged by " + by, boards.sheet(4, 2), new int[] {10, 20, 30}[way]);
            CHECK.is("merged", boards.sheet(4, 5), 2);
            CHECK.is("torn still", boards.count(8), 1);
            boards.pass(3);
            CHECK.is("merged later by " + by, boards.sheet(5, 2), new int[] {5000, 6000, 9999}[way]);
            CHECK.is("on day 4", boards.sheet(5, 4), 4);
            CHECK.is("orders carried out", boards.count(11), 2);
            CHECK.is("merged sheets", boards.count(10), 2);
        }
    }

    private static void sendOrders() {
        ParishBoards boards = Check.taught(TWO + "send ab;send ba when day / 2 * 2 = day;");
        boards.pass(1);
        CHECK.is("nothing carried, no order carried out", boards.count(11), 0);
        boards.write(0, 0, 1);
        boards.pass(1);
        CHECK.is("sent on day 1", boards.count(11), 1);
        CHECK.is("one sending", boards.road(0, 4), 1);
        CHECK.is("under way", boards.road(0, 3), 1);
        CHECK.is("come on day 2", boards.pass(1), 1);
        boards.pass(1);
        CHECK.is("not sent back on day 3", boards.road(1, 4), 0);
        boards.pass(1);
        CHECK.is("sent back on day 4", boards.road(1, 4), 1);
        CHECK.is("two orders carried out", boards.count(11), 2);
        boards.write(0, 0, 1);
        boards.send(0);
        boards.pass(1);
        CHECK.is("what was sent by hand is not sent again", boards.count(11), 2);
    }

    private static void test(String test, boolean due) {
        ParishBoards boards = Check.taught(TWO + "write a m as 1 when " + test + ";");
        boards.pass(1);
        CHECK.is("test " + test, boards.count(11), due ? 1 : 0);
    }

    private static void sumsAndTests() {
        int[][] sums = {{written("2+3*4"), 14}, {written("20-3-4"), 13}, {written("7/2*2"), 6}, {written("2*7/2"), 7},
            {written("100/7/2"), 7}, {written("(2+3)*4"), 20}, {written("20-(3-4)"), 21}, {written("5/0+3"), 3},
            {written("0-7/2+10"), 7}, {written("(0-7)/2+10"), 7}, {written("-7/2+10"), 7}, {written("7/-2+10"), 7},
            {written("--5"), 5}, {written("9--5"), 14}, {written("-5+9"), 4}, {written("-2*3+10"), 4},
            {written("min(4,9)"), 4}, {written("min(9,4)"), 4}, {written("max(4,9)"), 9}, {written("max(9,4)"), 9},
            {written("max(-4,-9)+10"), 6}, {written("min(max(1,2),max(3,4))"), 2}, {written("max(1,2)*min(3,4)"), 6},
            {written("65536*65536+5"), 5}, {written("65536*32768/65536+40000"), 7232},
            {written("(65536*32767+65535+1)/-1/65536+32768+3"), 3}, {written("day"), 0}, {written("007"), 7},
            {written("999999-999990"), 9}, {written("-(65536*32768)/65536+32768+1"), 1},
            {written("65536*32768/0+8"), 8}, {written("0-65536*32768+65535*65536*0-65536*32768+6"), 6}};
        for (int i = 0; i < sums.length; i++) {
            CHECK.is("sum " + i, sums[i][0], sums[i][1]);
        }
        test("1<2", true);
        test("2<2", false);
        test("2>1", true);
        test("2>2", false);
        test("2=2", true);
        test("2=3", false);
        test("2<=2", true);
        test("3<=2", false);
        test("2>=2", true);
        test("2>=3", false);
        test("-999999*3000 > 999999*3000", true);
        test("65536*32767+65535 > 65536*32768", true);
        test("not 1=1", false);
        test("not not 1=1", true);
        test("not [1=1 and 1=2]", true);
        test("not 1=2 and 1=2", false);
        test("not 1=2 or 1=1", true);
        test("1=1 or 1=1 and 1=2", true);
        test("1=2 and 1=1 or 1=1", true);
        test("[1=1 or 1=1] and 1=2", false);
        test("1=1 or 1=2 and 1=2 or 1=2", true);
        test("1=2 or 1=2 or 1=1", true);
        test("1=1 and 1=1 and 1=2", false);
        test("1=2 or [1=1 and [1=2 or 1=1]]", true);
        test("not 1=1 or not 1=2", true);
        test("not 1=1 and not 1=2", false);
        test("known a n", false);
        test("not known a n and not torn a n", true);
    }

    private static void whatBoardsAnswer() {
        ParishBoards boards = Check.taught(TWO + "notice x;parish c;"
                + "write c x as value b n * 100 + sheets b n * 10 + marks b n when day = 2;"
                + "write c x as value b m * 100 + sheets b m * 10 + marks b m when day = 3;"
                + "write c x as value a n * 100 + sheets a n * 10 + marks a n when day = 4;"
                + "write c x as 1 when day = 5 and torn b n and known b n and not known b m and known a n;"
                + "write c x as 2 when day = 6 and not torn a n;"
                + "write c x as 3 when day = 7 and torn a n or day = 7 and torn b m;");
        boards.write(1, 0, 20);
        boards.note(1, 0, 1);
        boards.note(1, 0, 2);
        boards.write(0, 0, 30);
        boards.note(0, 0, 2);
        boards.note(0, 0, 3);
        boards.send(0);
        boards.pass(10);
        CHECK.is("four are written", boards.count(5), 11);
        // The first sheet at b is that of the parish a, with 30; the marks are 1, 2 and 3.
        CHECK.is("at b, where two are shown", boards.sheet(6, 2), 3023);
        CHECK.is("at b, where none is shown", boards.sheet(7, 2), 0);
        CHECK.is("at a, where one is shown", boards.sheet(8, 2), 3012);
        CHECK.is("torn and known", boards.sheet(9, 2), 1);
        CHECK.is("not torn where one is shown", boards.sheet(10, 2), 2);
        CHECK.is("the last day of one", boards.sheet(10, 4), 6);

        ParishBoards waiting = Check.taught(TWO + "parish c;write c n as waits b + 5 when waits b > 0;"
                + "write c m as waits a + 7 when day = 4;");
        waiting.setDays(0, 9);
        waiting.write(0, 0, 1);
        waiting.write(0, 1, 1);
        waiting.send(0);
        waiting.setDays(0, 1);
        waiting.write(0, 0, 2);
        waiting.write(0, 1, 2);
        waiting.send(0);
        waiting.pass(3);
        CHECK.is("two wait at b, of both notices", waiting.count(7), 2);
        CHECK.is("written as they wait", waiting.sheet(4, 2), 7);
        waiting.pass(2);
        CHECK.is("none waits at a", waiting.sheet(7, 2), 7);
    }

    private static void orderOfTheDay() {
        ParishBoards boards = Check.taught(TWO
                + "write a n as 1 when day = 0;write a n as value a n + 1 when known a n and day = 0;"
                + "send ab;write a m as 4 when day = 0;");
        boards.pass(1);
        CHECK.is("each order sees what those ahead did", boards.sheet(1, 2), 2);
        CHECK.is("sent on this day, not the one told behind", boards.road(0, 3), 2);
        CHECK.is("four orders", boards.count(11), 4);
        CHECK.is("the first two are hung", boards.pass(1), 2);
        CHECK.is("the third one is under way", boards.road(0, 3), 1);
        // A test comes ahead of what comes on that day.
        ParishBoards test = Check.taught(TWO + "write b m as 1 when known b n;");
        test.write(0, 0, 1);
        test.send(0);
        test.pass(2);
        CHECK.is("come on day 1", test.count(9), 1);
        CHECK.is("not known to the orders of day 1", test.count(11), 0);
        test.pass(1);
        CHECK.is("known to those of day 2", test.count(11), 1);
        CHECK.is("its stamp has what was known", test.stamp(1, 0), 1);
        // What comes and is hung on a day goes on with the next day's orders, not with those of the day.
        ParishBoards chain = Check.taught(THREE + "send ab;send bc;");
        chain.write(0, 0, 1);
        CHECK.is("until b", chain.until(1, 0), 2);
        CHECK.is("until c", chain.until(2, 0), 4);
        ParishBoards by = Check.taught("parish a;parish b;notice n;road ab from a to b days 1;"
                + "write a n as 5 when day = 1;note a n with day when day = 2;write a n as 6 when day < 3;");
        by.pass(4);
        CHECK.is("orders carried out in all", by.count(11), 5);
        CHECK.is("the marks of what was shown", by.sheet(4, 3), 4);
        CHECK.is("written on day 2", by.sheet(4, 4), 2);
    }

    private static void fullOfSheets() {
        ParishBoards boards = Check.taught(TWO + "send ab when day = 61;write a n as day when 1=1;"
                + "write b n as 7 when day = 0;note b n with 3 when day > 0;merge b n by sum;");
        boards.pass(57);
        CHECK.is("59 sheets", boards.count(5), 59);
        boards.pass(1);
        CHECK.is("60 sheets", boards.count(5), 60);
        CHECK.is("60 orders", boards.count(11), 60);
        boards.pass(3);
        CHECK.is("60 sheets still", boards.count(5), 60);
        CHECK.is("60 orders still", boards.count(11), 60);
        boards.pass(1);
        CHECK.is("the sending of day 61", boards.count(11), 61);
        CHECK.is("hung on day 62", boards.pass(1), 58);
        boards.pass(3);
        CHECK.is("torn", boards.count(8), 1);
        CHECK.is("no merging", boards.count(10), 0);
    }

    private static void foreseeing() {
        ParishBoards boards = Check.taught(THREE + "send ab;send bc when day > 3;write b n as 3 when day = 2;"
                + "merge b n by most;");
        boards.write(0, 0, 1);
        boards.write(2, 0, 2);
        boards.send(2);
        long before = boards.digest();
        for (int wrong : new int[] {0, -1, 61, Integer.MIN_VALUE, Integer.MAX_VALUE}) {
            CHECK.noArgument("foresee " + wrong, () -> boards.foresee(wrong, 5));
            CHECK.noArgument("foresee " + wrong + " and 4", () -> boards.foresee(wrong, 4));
        }
        for (int wrong : new int[] {4, 12, 0, -1, Integer.MIN_VALUE, Integer.MAX_VALUE}) {
            CHECK.noIndex("foresee what " + wrong, () -> boards.foresee(1, wrong));
        }
        for (int days = 1; days <= 60; days += days < 9 ? 1 : 17) {
            ParishBoards then = Check.taught(THREE + "send ab;send bc when day > 3;write b n as 3 when day = 2;"
                    + "merge b n by most;");
            then.write(0, 0, 1);
            then.write(2, 0, 2);
            then.send(2);
            then.pass(days);
            for (int what = 5; what <= 11; what++) {
                CHECK.is("foresee " + days + " " + what, boards.foresee(days, what), then.count(what));
            }
        }
        CHECK.is("sheets on day 3", boards.foresee(3, 5), 3);
        CHECK.is("under way behind a day", boards.foresee(1, 6), 2);
        CHECK.is("hung by day 4", boards.foresee(4, 9), 2);
        CHECK.is("60 days", boards.foresee(60, 9), 3);
        CHECK.is("foreseeing changes nothing", boards.digest(), before);
        ParishBoards made = Check.taught(TWO + "write a m as 1 when value b n = 9 and marks b n = 2 and day = 2;");
        made.write(0, 0, 4);
        made.note(0, 0, 1);
        made.write(1, 0, 5);
        made.note(1, 0, 2);
        made.send(0);
        made.pass(2);
        made.merge(1, 0, 2);
        CHECK.is("merged sheets stay so", made.foresee(1, 10), 1);
        CHECK.is("values and marks stay", made.foresee(1, 11), 1);
        boards.setDays(0, 9);
        CHECK.is("with the days of now", boards.foresee(4, 9), 1);
        boards.setDays(0, 1);
        CHECK.is("foreseeing changes nothing still", boards.digest(), before);
    }

    private static void until() {
        ParishBoards boards = Check.taught(THREE + "send ab when day = 58;send ac when day = 58;");
        boards.write(0, 0, 1);
        long before = boards.digest();
        CHECK.is("known now", boards.until(0, 0), 0);
        CHECK.is("behind day 59", boards.until(1, 0), 60);
        CHECK.is("behind day 61", boards.until(2, 0), -1);
        CHECK.is("nothing is changed", boards.digest(), before);
        boards.pass(2);
        CHECK.is("two days later", boards.until(2, 0), 60);
        boards.pass(57);
        CHECK.is("the day before", boards.until(1, 0), 1);
        boards.pass(1);
        CHECK.is("known then", boards.until(1, 0), 0);
        CHECK.noIndex("until -1", () -> boards.until(-1, 0));
        CHECK.noIndex("until 3", () -> boards.until(3, 0));
        CHECK.noIndex("until of -1", () -> boards.until(0, -1));
        CHECK.noIndex("until of 1", () -> boards.until(0, 1));
        // A sheet that waits is not known, until it is hung.
        ParishBoards late = Check.taught(TWO);
        late.setDays(0, 9);
        late.write(0, 0, 1);
        late.send(0);
        late.setDays(0, 1);
        late.write(0, 0, 2);
        late.send(0);
        late.pass(2);
        CHECK.is("it waits", late.parish(1, 1), 1);
        CHECK.is("until it is hung", late.until(1, 1), 8);
    }

    private static void alike() {
        CHECK.holds("alike without parishes", new ParishBoards().alike());
        CHECK.holds("alike with one", Check.taught("parish a;").alike());
        ParishBoards one = Check.taught("parish a;notice n;");
        one.write(0, 0, 1);
        CHECK.holds("one with a sheet is alike", one.alike());
        ParishBoards boards = Check.taught(TWO);
        CHECK.holds("alike with none shown", boards.alike());
        boards.write(0, 1, 1);
        CHECK.holds("not alike where one shows none", !boards.alike());
        boards.send(0);
        boards.pass(2);
        CHECK.holds("alike again", boards.alike());
        boards.write(0, 0, 1);
        boards.write(1, 0, 1);
        CHECK.holds("not alike with one each", !boards.alike());
        boards.send(0);
        boards.pass(2);
        CHECK.holds("not alike with one and two", !boards.alike());
        boards.send(1);
        boards.pass(2);
        CHECK.holds("alike with two", boards.alike());
        boards.note(1, 1, 0);
        CHECK.holds("not alike in the other notice", !boards.alike());
        ParishBoards three = Check.taught(THREE);
        three.write(0, 0, 1);
        three.send(0);
        three.pass(2);
        CHECK.holds("not alike with two of three", !three.alike());
        three.send(1);
        three.pass(2);
        CHECK.holds("alike with three", three.alike());
    }

    private static void missed() {
        CHECK.is("missed without parishes", new ParishBoards().missed(), -1);
        ParishBoards boards = Check.taught(THREE);
        CHECK.is("missed without sheets", boards.missed(), -1);
        boards.write(0, 0, 1);
        boards.write(1, 0, 1);
        CHECK.is("the first one is missed", boards.missed(), 0);
        boards.send(0);
        boards.pass(2);
        CHECK.is("the first one is missed at c", boards.missed(), 0);
        boards.send(2);
        boards.pass(4);
        CHECK.is("the second one is missed", boards.missed(), 1);
        ParishBoards one = Check.taught("parish a;notice n;");
        one.write(0, 0, 1);
        CHECK.is("none is missed where there is one board", one.missed(), -1);
        ParishBoards two = Check.taught(TWO);
        two.write(0, 0, 1);
        two.send(0);
        two.pass(2);
        CHECK.is("none is missed", two.missed(), -1);
    }

    private static void advising() {
        ParishBoards boards = Check.taught(THREE);
        CHECK.is("nothing to send", boards.advise(30), -1);
        boards.write(0, 0, 1);
        long before = boards.digest();
        for (int wrong : new int[] {0, 31, -1, Integer.MIN_VALUE, Integer.MAX_VALUE}) {
            CHECK.noArgument("advise " + wrong, () -> boards.advise(wrong));
        }
        CHECK.is("nothing has come behind a day", boards.advise(1), -1);
        CHECK.is("it has come to b behind two", boards.advise(2), 0);
        CHECK.is("of ab and ac the one with the smaller number", boards.advise(30), 0);
        CHECK.is("nothing is changed", boards.digest(), before);
        boards.send(0);
        CHECK.is("ac is left", boards.advise(4), 2);
        CHECK.is("but comes on day 3", boards.advise(3), -1);
        boards.pass(2);
        CHECK.is("from b it goes faster", boards.advise(2), 1);
        CHECK.is("of bc and ac the one with the smaller number", boards.advise(30), 1);
        // More by the road with the greater number.
        boards.write(0, 0, 2);
        CHECK.is("two to c", boards.advise(30), 2);
        CHECK.is("one to b, behind two days", boards.advise(2), 0);
        // Where the orders send anyway, sending by hand brings nothing more in time.
        ParishBoards anyway = Check.taught(THREE + "send ab;send bc;");
        anyway.write(0, 0, 1);
        CHECK.is("orders bring it to b as fast, and to c as fast as ac", anyway.advise(4), -1);
        ParishBoards later = Check.taught(THREE + "send ab when day = 1;send bc;");
        later.write(0, 0, 1);
        CHECK.is("a day sooner", later.advise(2), 0);
        CHECK.is("the same behind nine days", later.advise(9), -1);
        CHECK.is("advice without parishes", new ParishBoards().advise(1), -1);
    }

    private static void mean() {
        CHECK.holds("mean without parishes is 0", new ParishBoards().mean() == 0.0);
        ParishBoards boards = Check.taught(THREE);
        CHECK.holds("mean without sheets is 0", boards.mean() == 0.0);
        boards.write(0, 0, 1);
        CHECK.holds("a third", boards.mean() == 1.0 / 3.0);
        boards.write(0, 0, 1);
        CHECK.holds("two thirds", boards.mean() == 2.0 / 3.0);
        boards.send(0);
        CHECK.holds("none by what is under way", boards.mean() == 2.0 / 3.0);
        boards.pass(2);
        CHECK.holds("four thirds", boards.mean() == 4.0 / 3.0);
        boards.write(1, 0, 1);
        boards.write(1, 0, 1);
        CHECK.holds("two", boards.mean() == 2.0);
    }
}
