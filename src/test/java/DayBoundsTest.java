/** "A day goes like this" and promises 19 to 25, sentence by sentence: each bound, and one beyond it. */
public final class DayBoundsTest {
    private static final Check CHECK = new Check();
    private static final String TWO = "parish a;parish b;notice n;notice m;"
            + "road ab from a to b days 1;road ba from b to a days 1;";
    private static final String THREE = "parish a;parish b;parish c;notice n;"
            + "road ab from a to b days 1;road bc from b to c days 1;road ac from a to c days 3;";
    private static final String FULL = "write a m as 0 when day>=0;";

    public static void main(String[] args) {
        ordersInTheirOrder();
        testsAsTheyComeToTheirTurn();
        valueIsHeld();
        writtenBelowSixty();
        markIsNotHeld();
        notedIfItCanBe();
        markNotInTheMarginYet();
        notedBelowSixty();
        mergedIfItCanBe();
        mergedBelowSixty();
        sentIfAnyIsCarried();
        carriedOut();
        comesBehindTheOrders();
        onTheSameDay();
        smallestNumberFirst();
        oneDayMore();
        manyCalls();
        daysToPass();
        hungInThem();
        daysToForesee();
        whatToForesee();
        foreseenByWhatSheetsTell();
        foreseenChangesNothing();
        knownNow();
        knownByDaySixty();
        untilChangesNothing();
        alikeOrNone();
        smallestMissed();
        bestRoad();
        ofSeveralTheSmallest();
        noneByWhichMore();
        daysToAdvise();
        adviseChangesNothing();
        meanOfBoards();
        CHECK.end("DayBoundsTest");
    }

    private static void shown(ParishBoards boards, int parish, int notice, int... due) {
        for (int place = 0; place < due.length; place++) {
            CHECK.is("shown " + parish + " " + notice + " " + place, boards.shown(parish, notice, place), due[place]);
        }
        CHECK.noIndex("shown behind the last", () -> boards.shown(parish, notice, due.length));
    }

    // ---- orders

    private static void ordersInTheirOrder() {
        CHECK.sentence("Orders, in the order in which they are told");
        ParishBoards boards = Check.taught(TWO + "send ab;write a n as 1 when day<2;note a n with 5 when day=0;send ab;"
                + "write a m as sheets a n*10+marks a n when day=0;write a n as value a n+1 when day=0;send ab;");
        boards.pass(1);
        CHECK.is("orders carried out", boards.count(11), 6);
        CHECK.is("sendings", boards.road(0, 4), 2);
        int[] values = {1, 1, 11, 2};
        for (int s = 0; s < values.length; s++) {
            CHECK.is("value of " + s, boards.sheet(s, 2), values[s]);
        }
        boards.pass(1);
        CHECK.is("the first send has nothing to carry", boards.road(0, 4), 3);
        CHECK.is("orders carried out in all", boards.count(11), 8);
    }

    private static void testsAsTheyComeToTheirTurn() {
        CHECK.sentence("if the test holds as it comes to its turn (or there is none)");
        ParishBoards boards = Check.taught(TWO + "write b n as 9 when known a n;write a n as 1 when not known a n;"
                + "write b n as 2 when known a n and day=0;send ab when known b n;send ba;");
        boards.pass(1);
        CHECK.is("the first order's test didn't hold", boards.count(5), 2);
        CHECK.is("the third one's did", boards.sheet(1, 0), 1);
        CHECK.is("sent with a test that holds", boards.road(0, 4), 1);
        CHECK.is("sent without a test", boards.road(1, 4), 1);
        CHECK.is("orders carried out", boards.count(11), 4);
        boards.pass(1);
        CHECK.is("the first order's test holds", boards.sheet(2, 2), 9);
        CHECK.is("the second one's no longer", boards.count(5), 3);
    }

    private static int written(String sum) {
        ParishBoards boards = Check.taught(TWO + "write a n as " + sum + " when day=0;");
        boards.pass(1);
        return boards.sheet(0, 2);
    }

    private static void valueIsHeld() {
        CHECK.sentence("write: with the sum as the value, held at 0 and 9999");
        CHECK.is("-1", written("-1"), 0);
        CHECK.is("0", written("0"), 0);
        CHECK.is("1", written("1"), 1);
        CHECK.is("9998", written("9998"), 9998);
        CHECK.is("9999", written("9999"), 9999);
        CHECK.is("10000", written("10000"), 9999);
        CHECK.is("the most", written("32767*65536+65535"), 9999);
        CHECK.is("the least", written("-32768*65536"), 0);
        CHECK.is("more than the most", written("32767*65536+65536"), 0);
    }

    /** Writes so many sheets by hand at a, of m. */
    private static void fill(ParishBoards boards, int sheets) {
        for (int s = boards.count(5); s < sheets; s++) {
            boards.write(0, 1, 0);
        }
    }

    /** With 58, 59 and 60 sheets an order of day 2 is carried out, makes the last one, or is not. */
    private static void checkFull(String order) {
        for (int ahead = 58; ahead <= 60; ahead++) {
            ParishBoards boards = torn(order + " when day=2;");
            fill(boards, ahead);
            boards.pass(1);
            CHECK.is(order + " with " + ahead, boards.count(5), Math.min(60, ahead + 1));
            CHECK.is(order + " carried out with " + ahead, boards.count(11), ahead < 60 ? 1 : 0);
        }
    }

    /** The day is 2, and b shows two sheets of n. */
    private static ParishBoards torn(String order) {
        ParishBoards boards = Check.taught(TWO + order);
        boards.write(0, 0, 3);
        boards.write(1, 0, 4);
        boards.send(0);
        boards.pass(2);
        return boards;
    }

    private static void writtenBelowSixty() {
        CHECK.sentence("held at 0 and 9999, if there are fewer than 60 sheets.");
        checkFull("write a n as 1");
        ParishBoards boards = Check.taught(TWO + FULL + FULL + FULL);
        boards.pass(30);
        CHECK.is("sheets", boards.count(5), 60);
        CHECK.is("orders carried out", boards.count(11), 60);
        CHECK.is("the last one's day", boards.sheet(59, 4), 19);
    }

    private static int noted(String sum) {
        ParishBoards boards = Check.taught(TWO + "note a n with " + sum + " when day=0;");
        boards.write(0, 0, 7);
        boards.pass(1);
        CHECK.is("carried out with " + sum, boards.count(11), boards.count(5) - 1);
        return boards.count(5) == 1 ? -1 : boards.sheet(1, 3);
    }

    private static void markIsNotHeld() {
        CHECK.sentence("note: with the sum as the mark (not held), if that is 0 to 15");
        CHECK.is("mark -1", noted("-1"), -1);
        for (int mark = 0; mark <= 15; mark++) {
            CHECK.is("mark " + mark, noted("" + mark), 1 << mark);
        }
        for (String wrong : new String[] {"16", "17", "31", "32", "33", "64", "-16", "-31", "-32", "65536",
            "32767*65536+65535", "-32768*65536"}) {
            CHECK.is("mark " + wrong, noted(wrong), -1);
        }
    }

    private static void notedIfItCanBe() {
        CHECK.sentence("if that is 0 to 15, it can be, the mark is not in the margin yet");
        ParishBoards boards = Check.taught(TWO + "note b n with day when day>=0;");
        boards.pass(1);
        CHECK.is("where none is shown", boards.count(11), 0);
        boards.write(0, 0, 3);
        boards.write(1, 0, 4);
        boards.pass(1);
        CHECK.is("where one is shown", boards.count(11), 1);
        CHECK.is("its value", boards.sheet(2, 2), 4);
        CHECK.is("its mark", boards.sheet(2, 3), 2);
        boards.send(0);
        boards.pass(2);
        CHECK.is("on the days ahead of the coming", boards.count(11), 3);
        boards.pass(2);
        CHECK.is("where two are shown", boards.count(11), 3);
        boards.merge(1, 0, 0);
        boards.pass(1);
        CHECK.is("where the merged one is shown", boards.count(11), 4);
        CHECK.is("its marks", boards.sheet(boards.count(5) - 1, 3), 2 | 4 | 8 | 64);
    }

    private static void markNotInTheMarginYet() {
        CHECK.sentence("the mark is not in the margin yet, and there are fewer than 60 sheets.");
        for (int mark = 0; mark <= 15; mark++) {
            ParishBoards boards = Check.taught(TWO + "note a n with " + mark + " when day<3;");
            boards.write(0, 0, 1);
            boards.note(0, 0, mark == 15 ? 14 : mark + 1);
            boards.pass(1);
            CHECK.is("not yet " + mark, boards.count(5), 3);
            boards.pass(2);
            CHECK.is("in the margin " + mark, boards.count(5), 3);
            CHECK.is("carried out once", boards.count(11), 1);
            CHECK.is("by hand it can be all the same", boards.note(0, 0, mark), 3);
        }
        ParishBoards other = Check.taught(TWO + "note a n with 3 when day<3;");
        other.write(0, 1, 1);
        other.note(0, 1, 3);
        other.write(0, 0, 1);
        other.pass(1);
        CHECK.is("in the margin of another notice", other.count(11), 1);
    }

    private static void notedBelowSixty() {
        CHECK.sentence("and there are fewer than 60 sheets. merge:");
        checkFull("note a n with 3");
    }

    private static void mergedIfItCanBe() {
        CHECK.sentence("merge: if it can be, and there are fewer than 60 sheets.");
        for (String by : new String[] {"least", "most", "sum"}) {
            ParishBoards boards = Check.taught(TWO + "merge b n by " + by + ";");
            boards.pass(1);
            CHECK.is("where none is shown", boards.count(11), 0);
            boards.write(1, 0, 4);
            boards.pass(1);
            CHECK.is("where one is shown", boards.count(11), 0);
            boards.write(0, 0, 3);
            boards.send(0);
            boards.pass(2);
            CHECK.is("on the day that brings the other", boards.count(11), 0);
            boards.pass(1);
            CHECK.is("where two are shown", boards.count(11), 1);
            CHECK.is("merged by " + by, boards.sheet(2, 2), by.equals("least") ? 3 : by.equals("most") ? 4 : 7);
            boards.pass(1);
            CHECK.is("where the merged one is shown", boards.count(11), 1);
            CHECK.is("merged sheets", boards.count(10), 1);
        }
        ParishBoards most = Check.taught(TWO + "merge b n by sum when day=2;merge b m by sum when day=2;");
        int[] values = {5000, 4999, 5000, 5000};
        for (int i = 0; i < 4; i++) {
            most.write(i % 2, i / 2, values[i]);
        }
        most.send(0);
        most.pass(3);
        CHECK.is("a sum of 9999", most.sheet(4, 2), 9999);
        CHECK.is("a sum of 10000", most.sheet(5, 2), 9999);
    }

    private static void mergedBelowSixty() {
        CHECK.sentence("if it can be, and there are fewer than 60 sheets. send:");
        checkFull("merge b n by least");
        checkFull("merge b n by most");
        checkFull("merge b n by sum");
    }

    private static void sentIfAnyIsCarried() {
        CHECK.sentence("send: if any sheet is carried.");
        ParishBoards boards = Check.taught(TWO + "send ab;");
        boards.pass(1);
        CHECK.is("where none is known", boards.count(11), 0);
        CHECK.is("sendings of none", boards.road(0, 4), 0);
        boards.write(0, 0, 1);
        boards.pass(1);
        CHECK.is("where one is known", boards.count(11), 1);
        boards.pass(1);
        CHECK.is("where all were sent", boards.count(11), 1);
        CHECK.is("sendings", boards.road(0, 4), 1);
        boards.write(0, 0, 1);
        boards.send(0);
        boards.pass(1);
        CHECK.is("where all were sent by hand", boards.count(11), 1);
        fill(boards, 60);
        boards.pass(1);
        CHECK.is("with 60 sheets", boards.count(11), 2);
    }

    private static void carriedOut() {
        CHECK.sentence("11 orders that were carried out in all");
        ParishBoards boards = Check.taught(TWO + "write a n as 1 when day=0;note a n with 1 when day<2;"
                + "send ab when day<2;write b n as 1 when day=1;merge b n by sum;send ba when day=9;");
        int[] due = {3, 4, 5, 5};
        for (int day = 0; day < due.length; day++) {
            CHECK.is("foreseen behind day " + day, boards.foresee(1, 11), due[day]);
            boards.pass(1);
            CHECK.is("behind day " + day, boards.count(11), due[day]);
        }
        boards.write(0, 0, 1);
        boards.note(0, 0, 2);
        boards.send(0);
        CHECK.is("not by hand", boards.count(11), 5);
    }

    // ---- what comes

    private static void comesBehindTheOrders() {
        CHECK.sentence("What was sent on roads as many days ahead of this day as they had then comes");
        ParishBoards boards = Check.taught(TWO + "send ab;send ba;write b m as sheets b n when day<3;");
        boards.write(0, 0, 1);
        CHECK.is("none on day 0", boards.pass(1), 0);
        CHECK.is("one on day 1", boards.pass(1), 1);
        CHECK.is("not there for that day's orders", boards.sheet(2, 2), 0);
        CHECK.is("sent back on day 2, with what b made on day 1", boards.foresee(1, 6), 2);
        boards.pass(1);
        CHECK.is("there for the orders of day 2", boards.sheet(3, 2), 1);
        // Two parishes on, what comes on a day goes on with the next day's orders.
        ParishBoards chain = Check.taught(THREE + "send bc;send ab;");
        chain.write(0, 0, 1);
        CHECK.is("until b", chain.until(1, 0), 2);
        CHECK.is("until c", chain.until(2, 0), 4);
    }

    private static void onTheSameDay() {
        CHECK.sentence("comes, what was sent first ahead of others.");
        ParishBoards boards = Check.taught(THREE);
        boards.setDays(2, 2);
        boards.write(0, 0, 1);
        boards.send(2);
        boards.send(0);
        boards.pass(1);
        boards.setDays(2, 1);
        boards.write(0, 0, 2);
        boards.send(2);
        CHECK.is("under way", boards.count(6), 3);
        CHECK.is("one at b", boards.pass(1), 1);
        boards.setDays(1, 9);
        boards.send(1);
        CHECK.is("both at c on day 2, of two sendings", boards.pass(1), 2);
        shown(boards, 2, 0, 1);
        CHECK.is("none waits", boards.count(7), 0);
        CHECK.is("nothing more by b", boards.pass(10), 0);
    }

    private static void smallestNumberFirst() {
        CHECK.sentence("as long as any sheet that waits can be hung, the one with the smallest number of these is.");
        // At b wait 1, 2 and 3, of a, till 0 comes; all four are hung on that day, and 4, of c, ahead of them.
        ParishBoards boards = Check.taught(THREE + "road cb from c to b days 1;");
        boards.setDays(0, 4);
        for (int s = 0; s < 4; s++) {
            boards.write(0, 0, s);
            if (s == 0) {
                boards.send(0);
                boards.setDays(0, 1);
            }
        }
        boards.send(0);
        boards.write(2, 0, 4);
        boards.send(3);
        CHECK.is("of c", boards.pass(3), 1);
        CHECK.is("waiting", boards.parish(1, 1), 3);
        shown(boards, 1, 0, 4);
        CHECK.is("none on day 3", boards.pass(1), 0);
        CHECK.is("all on day 4", boards.pass(1), 4);
        CHECK.is("waiting then", boards.parish(1, 1), 0);
        shown(boards, 1, 0, 3, 4);
        CHECK.is("hung in all", boards.count(9), 5);
    }

    private static void manyCalls() {
        CHECK.sentence("An object is used for at most 512 calls after it has been made");
        ParishBoards boards = Check.taught(TWO + "send ab;");
        for (int i = 0; i < 490; i++) {
            CHECK.is("pass", boards.pass(60), 0);
        }
        CHECK.is("the day", boards.count(0), 60 * 490);
        boards.write(0, 0, 1);
        CHECK.is("its day", boards.sheet(0, 4), 60 * 490);
        CHECK.is("until it is known", boards.until(1, 0), 2);
        CHECK.is("hung on the next day but one", boards.pass(2), 1);
    }

    private static void oneDayMore() {
        CHECK.sentence("The day is 1 greater.");
        ParishBoards boards = new ParishBoards();
        CHECK.is("at first", boards.count(0), 0);
        boards.pass(1);
        CHECK.is("behind one", boards.count(0), 1);
        boards.pass(60);
        CHECK.is("behind 61", boards.count(0), 61);
    }

    // ---- Promises 19 and 20

    private static void daysToPass() {
        CHECK.sentence("if days is not 1 to 60");
        ParishBoards boards = Check.taught(TWO + "write a n as 1 when 1=1;");
        for (int wrong : new int[] {0, -1, 61, Integer.MIN_VALUE, Integer.MAX_VALUE}) {
            CHECK.noArgument("pass " + wrong, () -> boards.pass(wrong));
            CHECK.noArgument("foresee " + wrong, () -> boards.foresee(wrong, 5));
        }
        CHECK.is("no day is gone", boards.count(0), 0);
        CHECK.is("no order is carried out", boards.count(11), 0);
        boards.pass(1);
        CHECK.is("one day is gone", boards.count(0), 1);
        boards.pass(60);
        CHECK.is("60 more are gone", boards.count(0), 61);
        CHECK.is("60 sheets", boards.count(5), 60);
    }

    private static void hungInThem() {
        CHECK.sentence("Returns how many sheets are hung in them, but where they were made.");
        ParishBoards boards = Check.taught(TWO + "write a n as 1 when day<3;");
        CHECK.is("none, though three are made", boards.pass(3), 0);
        boards.send(0);
        CHECK.is("none on the day itself", boards.pass(1), 0);
        CHECK.is("three", boards.pass(60), 3);
        CHECK.is("none later", boards.pass(60), 0);
        boards.write(0, 0, 1);
        boards.write(1, 0, 1);
        boards.send(0);
        boards.send(1);
        CHECK.is("one at each, and none where it was made", boards.pass(2), 2);
        CHECK.is("hung in all", boards.count(9), 5);
    }

    private static void daysToForesee() {
        CHECK.sentence("Returns this, behind so many days, if nothing is done by hand (nothing is changed).");
        String list = THREE + "write a n as day when day=59 or day=60;send ac when day=56 or day=57;";
        ParishBoards boards = Check.taught(list);
        boards.write(0, 0, 1);
        CHECK.is("sheets behind 1", boards.foresee(1, 5), 1);
        CHECK.is("sheets behind 59", boards.foresee(59, 5), 1);
        CHECK.is("sheets behind 60", boards.foresee(60, 5), 2);
        CHECK.is("hung behind 59", boards.foresee(59, 9), 0);
        CHECK.is("hung behind 60", boards.foresee(60, 9), 1);
        CHECK.is("under way behind 56", boards.foresee(56, 6), 0);
        CHECK.is("under way behind 57", boards.foresee(57, 6), 1);
        CHECK.is("under way behind 59", boards.foresee(59, 6), 1);
        CHECK.is("under way behind 60", boards.foresee(60, 6), 0);
        boards.pass(1);
        CHECK.is("sheets behind 60 more", boards.foresee(60, 5), 3);
    }

    private static void whatToForesee() {
        CHECK.sentence("if what is not 5 to 11");
        String list = TWO + "send ab when day>2;write b m as 5 when day=1;write a m as 6 when day=2;merge b m by sum;";
        ParishBoards boards = Check.taught(list);
        boards.write(0, 0, 1);
        boards.feed(0, 0, 0, 0, 0);
        for (int wrong : new int[] {4, 12, 3, 13, 0, -1, -5, Integer.MIN_VALUE, Integer.MAX_VALUE}) {
            CHECK.noIndex("foresee 1 " + wrong, () -> boards.foresee(1, wrong));
            CHECK.noIndex("foresee 60 " + wrong, () -> boards.foresee(60, wrong));
            CHECK.noArgument("foresee 0 " + wrong, () -> boards.foresee(0, wrong));
            CHECK.noArgument("foresee 61 " + wrong, () -> boards.foresee(61, wrong));
        }
        for (int days = 1; days <= 60; days += days < 8 ? 1 : 13) {
            ParishBoards then = Check.taught(list);
            then.write(0, 0, 1);
            then.pass(days);
            for (int what = 5; what <= 11; what++) {
                CHECK.is("foresee " + days + " " + what, boards.foresee(days, what), then.count(what));
            }
        }
    }

    private static ParishBoards foreseeable() {
        ParishBoards boards = Check.taught(TWO + "write b n as value b m+marks b m when known b m and day<6;"
                + "merge b m by sum when value b n=7;note b m with 2 when marks b m=1 and day=5;send ba when day=4;");
        boards.write(1, 1, 3);
        boards.write(0, 1, 4);
        boards.note(0, 1, 15);
        boards.write(1, 0, 5);
        boards.send(0);
        boards.pass(2);
        boards.merge(1, 1, 2);
        boards.write(0, 0, 6);
        boards.write(0, 1, 6);
        boards.send(0);
        return boards;
    }

    private static void foreseenByWhatSheetsTell() {
        CHECK.sentence("`what`: 5 to 11 as count() has it");
        for (int days = 1; days <= 9; days++) {
            ParishBoards then = foreseeable();
            then.pass(days);
            for (int what = 5; what <= 11; what++) {
                CHECK.is("foresee " + days + " " + what, foreseeable().foresee(days, what), then.count(what));
            }
        }
        ParishBoards then = foreseeable();
        CHECK.is("merged now", then.foresee(1, 10), 1);
        then.pass(9);
        CHECK.is("sheets then", then.count(5), 15);
        CHECK.is("merged then", then.count(10), 2);
    }

    private static ParishBoards busy() {
        ParishBoards boards = Check.taught(THREE + "send ab;send bc when day>3;write b n as 3 when day=2;"
                + "note c n with day when day<16;merge b n by most when day>5;");
        boards.write(0, 0, 1);
        boards.write(2, 0, 2);
        boards.setDays(2, 5);
        boards.send(2);
        boards.feed(0x70617269, 0x73682061, 0x3b3b3b3b, 0, 0);
        return boards;
    }

    /** What was asked of the first changed nothing: it goes on as the second, of which nothing was asked. */
    private static void sameFromHereOn(ParishBoards asked, ParishBoards plain) {
        for (int i = 0; i < 4; i++) {
            CHECK.is("digest", asked.digest(), plain.digest());
            CHECK.is("send", asked.send(2), plain.send(2));
            CHECK.is("pass", asked.pass(2), plain.pass(2));
        }
        CHECK.is("digest at last", asked.digest(), plain.digest());
        CHECK.is("teach", asked.teach(), plain.teach());
        CHECK.is("errorAt", asked.errorAt(), plain.errorAt());
    }

    private static void foreseenChangesNothing() {
        CHECK.sentence("if nothing is done by hand (nothing is changed). Throws `IllegalArgumentException` if days"
                + " is not 1 to 60");
        ParishBoards boards = busy();
        for (int what = 5; what <= 11; what++) {
            boards.foresee(60, what);
            boards.foresee(1, what);
        }
        sameFromHereOn(boards, busy());
    }

    // ---- Promise 21

    private static void knownNow() {
        CHECK.sentence("Returns behind how many days its board knows it, if nothing is done by hand: 0 if it does"
                + " now");
        ParishBoards boards = Check.taught(TWO + "send ba;");
        boards.write(0, 0, 1);
        boards.write(1, 0, 1);
        CHECK.is("where it was made", boards.until(0, 0), 0);
        CHECK.is("where it was made too", boards.until(1, 1), 0);
        CHECK.is("by the order", boards.until(0, 1), 2);
        CHECK.is("not by any order", boards.until(1, 0), -1);
        boards.send(0);
        CHECK.is("by hand now", boards.until(1, 0), 2);
        boards.pass(1);
        CHECK.is("a day later", boards.until(1, 0), 1);
        boards.pass(1);
        CHECK.is("two days later", boards.until(1, 0), 0);
        // One that waits is not known.
        ParishBoards late = Check.taught(TWO);
        late.setDays(0, 9);
        late.write(0, 0, 1);
        late.send(0);
        late.setDays(0, 1);
        late.write(0, 0, 2);
        late.send(0);
        late.pass(2);
        CHECK.is("it waits", late.parish(1, 1), 1);
        CHECK.is("till it is hung", late.until(1, 1), 8);
    }

    private static void knownByDaySixty() {
        CHECK.sentence("at most 60; -1 if not by then (nothing is changed).");
        for (int day = 56; day <= 61; day++) {
            ParishBoards boards = Check.taught(TWO + "send ab when day=" + day + ";");
            boards.write(0, 0, 1);
            CHECK.is("sent on day " + day, boards.until(1, 0), day + 2 <= 60 ? day + 2 : -1);
        }
        ParishBoards never = Check.taught(TWO);
        never.write(0, 0, 1);
        CHECK.is("never", never.until(1, 0), -1);
    }

    private static void untilChangesNothing() {
        CHECK.sentence("-1 if not by then (nothing is changed).");
        ParishBoards boards = busy();
        for (int parish = 0; parish < 3; parish++) {
            for (int sheet = 0; sheet < 2; sheet++) {
                boards.until(parish, sheet);
            }
        }
        sameFromHereOn(boards, busy());
    }

    // ---- Promises 22 to 25

    private static void alike(String what, ParishBoards boards, boolean due) {
        CHECK.is(what, boards.alike(), due);
    }

    private static void alikeOrNone() {
        CHECK.sentence("Returns whether all boards show the same sheets of all notices, or none; true without"
                + " parishes.");
        alike("without parishes", new ParishBoards(), true);
        alike("without notices", Check.taught("parish a;parish b;"), true);
        ParishBoards one = Check.taught("parish a;notice n;");
        alike("one board, none shown", one, true);
        one.write(0, 0, 1);
        alike("one board, one shown", one, true);
        ParishBoards boards = Check.taught(THREE.replace("notice n;", "notice n;notice m;")
                + "road ca from c to a days 1;");
        alike("none shown", boards, true);
        boards.write(0, 0, 1);
        alike("one board shows one", boards, false);
        boards.send(0);
        boards.pass(2);
        alike("two boards of three show one", boards, false);
        boards.send(1);
        boards.pass(2);
        alike("three boards show one", boards, true);
        boards.write(2, 1, 1);
        alike("the last board shows one of the last notice", boards, false);
        boards.send(3);
        boards.pass(2);
        boards.send(0);
        boards.pass(2);
        alike("all boards show one of each", boards, true);
        boards.write(0, 0, 1);
        boards.write(2, 0, 1);
        alike("one each, different ones", boards, false);
        boards.send(3);
        boards.send(0);
        boards.pass(2);
        alike("two at one of them", boards, false);
        boards.send(0);
        boards.setDays(2, 1);
        boards.send(2);
        boards.pass(2);
        alike("two at each", boards, true);
        boards.note(1, 1, 0);
        alike("a new one at the middle board", boards, false);
    }

    private static void smallestMissed() {
        CHECK.sentence("Returns the sheet with the smallest number that some board does not know; -1 if all boards"
                + " know all sheets.");
        CHECK.is("without parishes", new ParishBoards().missed(), -1);
        ParishBoards one = Check.taught("parish a;notice n;");
        CHECK.is("without sheets", one.missed(), -1);
        one.write(0, 0, 1);
        CHECK.is("with one board", one.missed(), -1);
        ParishBoards boards = Check.taught(TWO);
        for (int s = 0; s < 3; s++) {
            boards.write(s % 2, 0, s);
        }
        CHECK.is("the first one", boards.missed(), 0);
        boards.setDays(1, 3);
        boards.send(0);
        boards.send(1);
        boards.pass(2);
        CHECK.is("the second one", boards.missed(), 1);
        boards.pass(2);
        CHECK.is("none", boards.missed(), -1);
        fill(boards, 60);
        CHECK.is("of many the first one", boards.missed(), 3);
        boards.send(0);
        boards.pass(2);
        CHECK.is("none of 60", boards.missed(), -1);
    }

    private static void bestRoad() {
        CHECK.sentence("Looks for the road on which had best be sent by hand now, so that boards know the most"
                + " sheets, added, behind so many days.");
        ParishBoards boards = Check.taught(THREE + "road ca from c to a days 2;");
        boards.write(0, 0, 1);
        CHECK.is("ab brings it by day 1", boards.advise(2), 0);
        boards.write(2, 0, 1);
        boards.write(2, 0, 1);
        CHECK.is("ca brings two, by day 2", boards.advise(3), 3);
        CHECK.is("but not sooner", boards.advise(2), 0);
        boards.send(3);
        CHECK.is("what was sent already isn't advised", boards.advise(3), 0);
        // Added over all boards: an order sends what comes to b on, so that ab brings more than ac.
        ParishBoards onwards = Check.taught("parish a;parish b;parish c;notice n;road ac from a to c days 1;"
                + "road ab from a to b days 1;road bc from b to c days 1;send bc;");
        onwards.write(0, 0, 1);
        CHECK.is("to one board", onwards.advise(2), 0);
        CHECK.is("to two boards", onwards.advise(4), 1);
    }

    private static void ofSeveralTheSmallest() {
        CHECK.sentence("Returns this, of several the smallest number");
        StringBuilder text = new StringBuilder("parish a;parish b;notice n;");
        for (int r = 0; r < 8; r++) {
            text.append("road r").append(r).append(" from a to b days ").append(9 - r).append(";");
        }
        ParishBoards boards = Check.taught(text.toString());
        boards.write(0, 0, 1);
        for (int days = 1; days <= 30; days++) {
            // The road r comes on the day 9 - r, so that it counts behind 10 - r days.
            CHECK.is("advise " + days, boards.advise(days), days < 3 ? -1 : Math.max(0, 10 - days));
        }
    }

    private static void noneByWhichMore() {
        CHECK.sentence("-1 if by none it would be more than without (nothing is changed).");
        ParishBoards boards = Check.taught(TWO);
        CHECK.is("without sheets", boards.advise(30), -1);
        boards.write(0, 0, 1);
        CHECK.is("nothing by a day", boards.advise(1), -1);
        CHECK.is("one by two", boards.advise(2), 0);
        boards.send(0);
        CHECK.is("what is under way comes anyway", boards.advise(2), -1);
        ParishBoards orders = Check.taught(TWO + "send ab;");
        orders.write(0, 0, 1);
        CHECK.is("what an order sends comes anyway", orders.advise(2), -1);
        ParishBoards later = Check.taught(TWO + "send ab when day=1;");
        later.write(0, 0, 1);
        CHECK.is("sooner than by the order", later.advise(2), 0);
        CHECK.is("as much as by the order", later.advise(3), -1);
        CHECK.is("without roads", Check.taught("parish a;").advise(1), -1);
        CHECK.is("without parishes", new ParishBoards().advise(30), -1);
        // What comes by ab keeps an order from writing on the days 2 and 3.
        ParishBoards less = Check.taught(TWO + "write b m as 1 when not known b n and day>1 and day<4;");
        less.write(0, 0, 1);
        CHECK.is("more than without", less.advise(2), 0);
        CHECK.is("as many as without", less.advise(3), -1);
        CHECK.is("less than without", less.advise(4), -1);
    }

    private static void daysToAdvise() {
        CHECK.sentence("if days is not 1 to 30");
        ParishBoards boards = Check.taught(TWO);
        boards.write(0, 0, 1);
        for (int wrong : new int[] {0, -1, 31, 60, Integer.MIN_VALUE, Integer.MAX_VALUE}) {
            CHECK.noArgument("advise " + wrong, () -> boards.advise(wrong));
        }
        CHECK.is("1 day", boards.advise(1), -1);
        CHECK.is("30 days", boards.advise(30), 0);
        // By ab it comes to b, and to c too if the order sends it on in time: by the last day, and not a day later.
        for (int day = 25; day <= 30; day++) {
            ParishBoards late = Check.taught("parish a;parish b;parish c;parish d;notice n;road ad from a to d days 1;"
                    + "road ab from a to b days 1;road bc from b to c days 1;send bc when day=" + day + ";");
            late.write(0, 0, 1);
            CHECK.is("30 days, sent on day " + day, late.advise(30), day + 2 <= 30 ? 1 : 0);
            CHECK.is("29 days, sent on day " + day, late.advise(29), day + 2 <= 29 ? 1 : 0);
        }
    }

    private static void adviseChangesNothing() {
        CHECK.sentence("by none it would be more than without (nothing is changed).");
        ParishBoards boards = busy();
        for (int days = 1; days <= 30; days++) {
            boards.advise(days);
        }
        sameFromHereOn(boards, busy());
    }

    private static void mean(String what, ParishBoards boards, double due) {
        CHECK.is(what, Double.doubleToRawLongBits(boards.mean()), Double.doubleToRawLongBits(due));
    }

    private static void meanOfBoards() {
        CHECK.sentence("Returns the mean of how many sheets boards know; 0 without any.");
        mean("without parishes", new ParishBoards(), 0.0);
        mean("without sheets", Check.taught(THREE), 0.0);
        for (int parishes = 1; parishes <= 5; parishes++) {
            StringBuilder text = new StringBuilder("notice n;");
            for (int p = 0; p < parishes; p++) {
                text.append("parish p").append(p).append(";");
            }
            ParishBoards boards = Check.taught(text.toString());
            for (int sheets = 1; sheets <= 60; sheets++) {
                boards.write(parishes - 1, 0, 1);
                mean(sheets + " at one of " + parishes, boards, (double) sheets / parishes);
            }
        }
        ParishBoards boards = Check.taught(THREE);
        boards.write(0, 0, 1);
        boards.send(0);
        mean("not what is under way", boards, 1.0 / 3);
        boards.pass(2);
        mean("what has come", boards, 2.0 / 3);
    }
}
