/** "2. Sheets and boards" up to the day, sentence by sentence: each bound, and one beyond it. */
public final class SheetsBoundsTest {
    private static final Check CHECK = new Check();
    /** Three parishes; the roads ab, bc, ac and ca lead from each to the other. */
    private static final String THREE = "parish a;parish b;parish c;notice n;notice m;"
            + "road ab from a to b days 1;road bc from b to c days 1;road ac from a to c days 3;"
            + "road ca from c to a days 2;";
    private static final int AB = 0;
    private static final int BC = 1;
    private static final int AC = 2;
    private static final int CA = 3;

    public static void main(String[] args) {
        sixtySheets();
        numbersAreZeroAtFirst();
        noneShownAtFirst();
        madeAtAParish();
        newSheetAlone();
        marksAsItIsWritten();
        notedWhereOneIsShown();
        marksAsItIsNoted();
        mergedWhereTwoAreShown();
        valueOfTheMerged();
        sumOfAtMost9999();
        marksOfTheMerged();
        asGreatOrGreater();
        didNotKnowOfEachOther();
        carriedTogether();
        notThoseThatWait();
        notSentOnItYet();
        oneSendingIfSome();
        asManyDaysLater();
        daysOfThen();
        droppedWhereItIsKnown();
        droppedWhereItWaits();
        oneMoreForItsParish();
        noMoreForOthers();
        hungInTheEnd();
        thoseAheadAreTakenDown();
        byTheNumbersOfTheirParishes();
        CHECK.end("SheetsBoundsTest");
    }

    /** Writes at each of so many parishes of a star a sheet with a value and a mark, and brings all to the last. */
    private static ParishBoards star(int... values) {
        StringBuilder text = new StringBuilder("notice n;notice m;");
        int last = Math.max(values.length - 1, 0);
        for (int p = 0; p <= last; p++) {
            text.append("parish p").append(p).append(";");
        }
        for (int p = 0; p < last; p++) {
            text.append("road r").append(p).append(" from p").append(p).append(" to p").append(last).append(" days 1;");
        }
        ParishBoards boards = Check.taught(text.toString());
        for (int p = 0; p < values.length; p++) {
            boards.write(p, 0, values[p]);
            boards.note(p, 0, 3 * p);
            if (p < last) {
                boards.send(p);
            }
        }
        boards.pass(2);
        return boards;
    }

    private static void shown(ParishBoards boards, int parish, int notice, int... due) {
        for (int place = 0; place < due.length; place++) {
            CHECK.is("shown " + parish + " " + notice + " " + place, boards.shown(parish, notice, place), due[place]);
        }
        CHECK.noIndex("shown behind the last", () -> boards.shown(parish, notice, due.length));
    }

    private static void knows(ParishBoards boards, int parish, int... due) {
        for (int other = 0; other < due.length; other++) {
            CHECK.is("knows " + parish + " " + other, boards.knows(parish, other), due[other]);
        }
    }

    private static void stamp(ParishBoards boards, int sheet, int... due) {
        for (int parish = 0; parish < due.length; parish++) {
            CHECK.is("stamp " + sheet + " " + parish, boards.stamp(sheet, parish), due[parish]);
        }
    }

    // ---- sheets

    private static void sixtySheets() {
        CHECK.sentence("Sheets are numbered from 0 as they are made; there can be 60.");
        ParishBoards boards = Check.taught(THREE);
        for (int s = 0; s < 60; s++) {
            CHECK.is("sheets", boards.count(5), s);
            CHECK.is("sheet " + s, s % 3 == 2 ? boards.note(s / 3 % 3, 0, s % 16) : boards.write(s / 3 % 3, 0, s), s);
        }
        CHECK.noState("write of the 61st", () -> boards.write(0, 0, 1));
        CHECK.noState("note of the 61st", () -> boards.note(0, 0, 1));
        CHECK.is("sheets", boards.count(5), 60);
        CHECK.is("value of the last one written", boards.sheet(58, 2), 58);
        CHECK.is("the last one noted", boards.sheet(59, 5), 1);
        CHECK.noIndex("sheet 60", () -> boards.sheet(60, 0));
    }

    private static void numbersAreZeroAtFirst() {
        CHECK.sentence("So many are its numbers, one for each parish, 0 at first.");
        ParishBoards boards = Check.taught(THREE);
        for (int p = 0; p < 3; p++) {
            knows(boards, p, 0, 0, 0);
            CHECK.is("sheets known at " + p, boards.parish(p, 0), 0);
        }
        boards.write(1, 0, 1);
        boards.write(1, 1, 1);
        knows(boards, 0, 0, 0, 0);
        knows(boards, 1, 0, 2, 0);
        knows(boards, 2, 0, 0, 0);
        CHECK.is("known at one", boards.sheet(0, 6), 1);
        CHECK.is("known at one too", boards.sheet(1, 6), 1);
        boards.send(BC);
        boards.write(1, 0, 1);
        boards.pass(2);
        knows(boards, 2, 0, 2, 0);
        CHECK.is("of each parish the first two", boards.sheet(1, 6), 2);
        CHECK.is("and not the third", boards.sheet(2, 6), 1);
    }

    private static void noneShownAtFirst() {
        CHECK.sentence("Of each notice it shows some sheets, none at first.");
        ParishBoards boards = Check.taught(THREE);
        for (int p = 0; p < 3; p++) {
            shown(boards, p, 0);
            shown(boards, p, 1);
            CHECK.is("notices shown at " + p, boards.parish(p, 2), 0);
        }
    }

    private static void madeAtAParish() {
        CHECK.sentence("the number of the board for this parish itself is 1 greater; the stamp is all numbers of"
                + " the board then.");
        ParishBoards boards = Check.taught(THREE);
        boards.write(0, 0, 1);
        stamp(boards, 0, 1, 0, 0);
        knows(boards, 0, 1, 0, 0);
        boards.note(0, 0, 1);
        stamp(boards, 1, 2, 0, 0);
        boards.send(AB);
        boards.write(1, 0, 1);
        stamp(boards, 2, 0, 1, 0);
        boards.pass(2);
        knows(boards, 1, 2, 1, 0);
        boards.merge(1, 0, 0);
        stamp(boards, 3, 2, 2, 0);
        knows(boards, 1, 2, 2, 0);
        boards.send(BC);
        boards.pass(2);
        boards.write(2, 1, 1);
        stamp(boards, 4, 2, 2, 1);
        stamp(boards, 3, 2, 2, 0);
        stamp(boards, 0, 1, 0, 0);
        CHECK.is("its day", boards.sheet(4, 4), 4);
        CHECK.is("the first one's day", boards.sheet(0, 4), 0);
    }

    private static void newSheetAlone() {
        CHECK.sentence("The board shows the new sheet alone, of this notice.");
        ParishBoards boards = star(1, 2, 3);
        boards.write(2, 1, 9);
        shown(boards, 2, 0, 1, 3, 5);
        shown(boards, 2, 1, 6);
        boards.write(2, 0, 4);
        shown(boards, 2, 0, 7);
        shown(boards, 2, 1, 6);
        shown(boards, 0, 0, 1);
        boards.note(2, 0, 4);
        shown(boards, 2, 0, 8);
        ParishBoards merged = star(1, 2, 3);
        merged.merge(2, 0, 0);
        shown(merged, 2, 0, 6);
        shown(merged, 0, 0, 1);
        ParishBoards first = star(1, 2);
        first.write(0, 0, 7);
        shown(first, 0, 0, 4);
        shown(first, 1, 0, 1, 3);
    }

    private static void marksAsItIsWritten() {
        CHECK.sentence("the margin has all marks of the sheets that the board showed of this notice.");
        ParishBoards boards = star(1, 2, 3);
        int none = boards.write(2, 1, 9);
        CHECK.is("of none", boards.sheet(none, 3), 0);
        int three = boards.write(2, 0, 9);
        CHECK.is("of three", boards.sheet(three, 3), 1 | 8 | 64);
        int one = boards.write(2, 0, 8);
        CHECK.is("of one", boards.sheet(one, 3), 1 | 8 | 64);
        CHECK.is("the value is told", boards.sheet(one, 2), 8);
        CHECK.is("of another notice", boards.sheet(boards.write(2, 1, 9), 3), 0);
        CHECK.is("of another board", boards.sheet(boards.write(1, 0, 9), 3), 8);
    }

    private static void notedWhereOneIsShown() {
        CHECK.sentence("Noting: can be, if the board shows one sheet of the notice.");
        ParishBoards none = star();
        CHECK.noState("where none is shown", () -> none.note(0, 0, 1));
        none.write(0, 0, 1);
        CHECK.is("where one is shown", none.note(0, 0, 1), 1);
        CHECK.noState("where none is shown of that notice", () -> none.note(0, 1, 1));
        for (int count = 2; count <= 5; count++) {
            ParishBoards more = star(new int[count]);
            int last = count - 1;
            CHECK.noState("where " + count + " are shown", () -> more.note(last, 0, 1));
            CHECK.is("at the board of one of them", more.note(0, 0, 1), 2 * count);
        }
    }

    private static void marksAsItIsNoted() {
        CHECK.sentence("The value is that of this one; the margin has its marks, and the one that is told.");
        ParishBoards boards = Check.taught(THREE);
        boards.write(1, 0, 4711);
        int due = 0;
        for (int mark = 15; mark >= 0; mark--) {
            int sheet = boards.note(1, 0, mark);
            due |= 1 << mark;
            CHECK.is("marks from 15 to " + mark, boards.sheet(sheet, 3), due);
            CHECK.is("value", boards.sheet(sheet, 2), 4711);
            CHECK.is("noted", boards.sheet(sheet, 5), 1);
        }
        CHECK.is("the sheet that was written", boards.sheet(0, 3), 0);
        CHECK.is("all sixteen", boards.sheet(16, 3), 65535);
    }

    private static void mergedWhereTwoAreShown() {
        CHECK.sentence("Merging: can be, if the board shows two sheets of the notice or more (it is torn there).");
        ParishBoards none = star();
        CHECK.noState("where none is shown", () -> none.merge(0, 0, 0));
        none.write(0, 0, 1);
        CHECK.noState("where one is shown", () -> none.merge(0, 0, 0));
        for (int count = 2; count <= 5; count++) {
            ParishBoards boards = star(new int[count]);
            int last = count - 1;
            CHECK.is("torn there", boards.parish(last, 3), 1);
            CHECK.noState("of another notice", () -> boards.merge(last, 1, 0));
            CHECK.noState("at another board", () -> boards.merge(0, 0, 0));
            CHECK.is("where " + count + " are shown", boards.merge(last, 0, 0), 2 * count);
            CHECK.is("no longer torn", boards.parish(last, 3), 0);
            CHECK.noState("of the merged one", () -> boards.merge(last, 0, 0));
        }
    }

    private static int merged(int by, int... values) {
        ParishBoards boards = star(values);
        return boards.sheet(boards.merge(values.length - 1, 0, by), 2);
    }

    private static void valueOfTheMerged() {
        CHECK.sentence("The value is the least, the most, or the sum (at most 9999) of theirs");
        int[][] values = {{3, 7}, {7, 3}, {5, 5}, {0, 9}, {9, 0}, {1, 2, 3}, {3, 1, 2}, {2, 3, 1}, {5, 4, 3, 2, 1},
            {1, 2, 3, 4, 5}, {0, 0, 0}, {9999, 0}};
        for (int[] some : values) {
            int least = some[0];
            int most = some[0];
            int sum = 0;
            for (int value : some) {
                least = Math.min(least, value);
                most = Math.max(most, value);
                sum += value;
            }
            CHECK.is("the least", merged(0, some), least);
            CHECK.is("the most", merged(1, some), most);
            CHECK.is("the sum", merged(2, some), sum);
        }
    }

    private static void sumOfAtMost9999() {
        CHECK.sentence("the sum (at most 9999)");
        CHECK.is("of 9998", merged(2, 5000, 4998), 9998);
        CHECK.is("of 9999", merged(2, 5000, 4999), 9999);
        CHECK.is("of 10000", merged(2, 5000, 5000), 9999);
        CHECK.is("of 9999 by three", merged(2, 3333, 3333, 3333), 9999);
        CHECK.is("of 10000 by three", merged(2, 3333, 3334, 3333), 9999);
        CHECK.is("of five", merged(2, 9999, 9999, 9999, 9999, 9999), 9999);
        CHECK.is("the most of 9999", merged(1, 9999, 9999), 9999);
        CHECK.is("the least of 9999", merged(0, 9999, 9999), 9999);
    }

    private static void marksOfTheMerged() {
        CHECK.sentence("the margin has all marks of theirs.");
        for (int count = 2; count <= 5; count++) {
            int due = 0;
            for (int p = 0; p < count; p++) {
                due |= 1 << 3 * p;
            }
            for (int by = 0; by <= 2; by++) {
                ParishBoards boards = star(new int[count]);
                int sheet = boards.merge(count - 1, 0, by);
                CHECK.is("marks of " + count, boards.sheet(sheet, 3), due);
                CHECK.is("merged", boards.sheet(sheet, 5), 2);
            }
        }
    }

    // ---- ahead

    private static void asGreatOrGreater() {
        CHECK.sentence("has, for the parish of the first one, a number as great as the stamp of the first one has,"
                + " or greater; otherwise it is not.");
        ParishBoards boards = Check.taught(THREE);
        boards.write(0, 0, 0);
        boards.write(0, 1, 1);
        boards.send(AB);
        boards.write(0, 0, 2);
        boards.pass(2);
        boards.write(1, 0, 3);
        stamp(boards, 3, 2, 1, 0);
        CHECK.is("greater", boards.compare(0, 3), 1);
        CHECK.is("as great", boards.compare(1, 3), 1);
        CHECK.is("one less", boards.compare(2, 3), 3);
        CHECK.is("the other way, greater", boards.compare(3, 0), 2);
        CHECK.is("the other way, as great", boards.compare(3, 1), 2);
        CHECK.is("the other way, one less", boards.compare(3, 2), 3);
        CHECK.is("of one parish", boards.compare(0, 1), 1);
        CHECK.is("of one parish, the other way", boards.compare(2, 1), 2);
        CHECK.is("the same", boards.compare(3, 3), 0);
        CHECK.is("the same first one", boards.compare(0, 0), 0);
    }

    private static void didNotKnowOfEachOther() {
        CHECK.sentence("Two sheets of which none is ahead of the other one did not know of each other.");
        ParishBoards boards = star(1, 2, 3);
        for (int a = 0; a < 6; a++) {
            for (int b = 0; b < 6; b++) {
                int due = a == b ? 0 : a / 2 != b / 2 ? 3 : a < b ? 1 : 2;
                CHECK.is("compare " + a + " " + b, boards.compare(a, b), due);
            }
        }
        boards.merge(2, 0, 0);
        boards.write(1, 0, 5);
        for (int a = 0; a < 6; a++) {
            CHECK.is("ahead of the merged", boards.compare(a, 6), 1);
            CHECK.is("ahead of the later one", boards.compare(a, 7), a / 2 == 1 ? 1 : 3);
        }
        CHECK.is("the last two", boards.compare(6, 7), 3);
    }

    // ---- roads

    private static void carriedTogether() {
        CHECK.sentence("all sheets that the board of the parish from which it leads knows");
        ParishBoards boards = Check.taught(THREE);
        CHECK.is("none", boards.send(AB), 0);
        boards.write(1, 0, 1);
        CHECK.is("none of another parish", boards.send(AB), 0);
        boards.write(0, 0, 1);
        CHECK.is("one", boards.send(AB), 1);
        boards.write(0, 0, 2);
        boards.write(0, 1, 3);
        CHECK.is("two, of both notices, shown or not", boards.send(AB), 2);
        boards.pass(2);
        CHECK.is("all that came there, and its own", boards.send(BC), 4);
        boards.pass(2);
        CHECK.is("all that came there, those of the other end too", boards.send(CA), 4);
        CHECK.is("under way", boards.road(CA, 3), 4);
    }

    private static void notThoseThatWait() {
        CHECK.sentence("(not those that wait)");
        ParishBoards boards = Check.taught(THREE);
        boards.setDays(AB, 5);
        boards.write(0, 0, 1);
        boards.send(AB);
        boards.setDays(AB, 1);
        boards.write(0, 0, 2);
        boards.send(AB);
        boards.pass(2);
        CHECK.is("it waits", boards.parish(1, 1), 1);
        CHECK.is("not carried", boards.send(BC), 0);
        CHECK.is("no sending", boards.road(BC, 4), 0);
        boards.pass(4);
        CHECK.is("it waits no longer", boards.parish(1, 1), 0);
        CHECK.is("both are carried", boards.send(BC), 2);
    }

    private static void notSentOnItYet() {
        CHECK.sentence("and that were not sent on it yet, are carried together");
        ParishBoards boards = Check.taught(THREE);
        boards.write(0, 0, 1);
        CHECK.is("first", boards.send(AB), 1);
        CHECK.is("not again as it is under way", boards.send(AB), 0);
        CHECK.is("but on another road", boards.send(AC), 1);
        boards.pass(5);
        CHECK.is("not again as it has come", boards.send(AB), 0);
        boards.write(0, 0, 2);
        CHECK.is("the new one alone", boards.send(AB), 1);
        CHECK.is("under way", boards.road(AB, 3), 1);
        boards.pass(60);
        CHECK.is("not again long behind that", boards.send(AB), 0);
        CHECK.is("hung", boards.count(9), 3);
    }

    private static void oneSendingIfSome() {
        CHECK.sentence("if these are some, which counts as one sending");
        ParishBoards boards = Check.taught(THREE);
        boards.send(AB);
        CHECK.is("none", boards.road(AB, 4), 0);
        boards.write(0, 0, 1);
        boards.send(AB);
        CHECK.is("of one sheet", boards.road(AB, 4), 1);
        boards.send(AB);
        CHECK.is("of none", boards.road(AB, 4), 1);
        boards.write(0, 0, 1);
        boards.write(0, 0, 1);
        boards.write(0, 1, 1);
        boards.send(AB);
        CHECK.is("of three sheets", boards.road(AB, 4), 2);
        CHECK.is("under way", boards.road(AB, 3), 4);
        CHECK.is("of another road", boards.road(AC, 4), 0);
    }

    private static void asManyDaysLater() {
        CHECK.sentence("they come as many days later as the road has then.");
        for (int days = 1; days <= 9; days++) {
            ParishBoards boards = Check.taught(THREE.replace("from a to b days 1", "from a to b days " + days));
            boards.write(0, 0, 1);
            boards.send(AB);
            CHECK.is("until it is known, by " + days, boards.until(1, 0), days + 1);
            CHECK.is("hung ahead of day " + days, boards.pass(days), 0);
            CHECK.is("under way still", boards.road(AB, 3), 1);
            CHECK.is("hung on day " + days, boards.pass(1), 1);
            CHECK.is("under way no longer", boards.road(AB, 3), 0);
            boards.write(0, 0, 2);
            boards.send(AB);
            CHECK.is("hung ahead of as many days later", boards.pass(days), 0);
            CHECK.is("hung then", boards.pass(1), 1);
        }
    }

    private static void daysOfThen() {
        CHECK.sentence("its days from now on; what is under way comes as it was sent");
        for (int then = 1; then <= 9; then++) {
            for (int later = 1; later <= 9; later += 4) {
                ParishBoards boards = Check.taught(THREE);
                boards.setDays(AB, then);
                boards.write(0, 0, 1);
                boards.send(AB);
                CHECK.is("days before", boards.setDays(AB, later), then);
                CHECK.is("as it was sent, with " + then, boards.until(1, 0), then + 1);
                boards.pass(then + 1);
                CHECK.is("known then", boards.parish(1, 0), 1);
                boards.write(0, 0, 2);
                boards.send(AB);
                CHECK.is("from now on, with " + later, boards.until(1, 1), later + 1);
            }
        }
    }

    // ---- coming

    private static void droppedWhereItIsKnown() {
        CHECK.sentence("A sheet that comes to a board which knows it, or where it waits, is dropped");
        ParishBoards boards = Check.taught(THREE);
        boards.write(0, 0, 1);
        boards.send(AB);
        boards.send(AC);
        boards.pass(2);
        boards.send(BC);
        CHECK.is("under way on two roads", boards.count(6), 2);
        CHECK.is("by bc it comes first", boards.pass(1) + boards.pass(1), 1);
        CHECK.is("none is under way behind day 3", boards.count(6), 0);
        CHECK.is("it doesn't wait", boards.parish(2, 1), 0);
        CHECK.is("hung once", boards.parish(2, 0), 1);
        boards.send(CA);
        boards.pass(3);
        CHECK.is("dropped where it was made", boards.count(9), 2);
        CHECK.is("it doesn't wait there", boards.parish(0, 1), 0);
        knows(boards, 0, 1, 0, 0);
        shown(boards, 0, 0, 0);
    }

    private static void droppedWhereItWaits() {
        CHECK.sentence("or where it waits, is dropped; otherwise it waits there.");
        // Sheet 1 comes to c by ac on day 1 and by bc on day 3; sheet 0, by ac too, not before day 9.
        ParishBoards boards = Check.taught(THREE);
        boards.setDays(AC, 9);
        boards.write(0, 0, 1);
        boards.send(AB);
        boards.send(AC);
        boards.pass(2);
        boards.setDays(BC, 9);
        CHECK.is("the first one goes on late", boards.send(BC), 1);
        boards.write(0, 0, 2);
        boards.send(AB);
        boards.setDays(AC, 1);
        boards.send(AC);
        boards.pass(2);
        CHECK.is("it waits", boards.parish(2, 1), 1);
        boards.setDays(BC, 1);
        CHECK.is("the second one goes on", boards.send(BC), 1);
        CHECK.is("it comes again", boards.foresee(2, 6), 2);
        boards.pass(2);
        CHECK.is("it waits once", boards.parish(2, 1), 1);
        CHECK.is("all waiting", boards.count(7), 1);
        CHECK.is("both are hung", boards.pass(4), 2);
        CHECK.is("none waits", boards.count(7), 0);
        CHECK.is("nothing more", boards.pass(9), 0);
        knows(boards, 2, 2, 0, 0);
        // On one day by two roads: it waits, and is hung, once.
        ParishBoards twice = Check.taught(THREE);
        twice.write(0, 0, 1);
        twice.send(AB);
        twice.send(AC);
        twice.pass(2);
        twice.send(BC);
        CHECK.is("both on day 3", twice.pass(1), 0);
        CHECK.is("hung once", twice.pass(1), 1);
        CHECK.is("none waits", twice.count(7), 0);
        CHECK.is("none is hung later", twice.pass(9), 0);
    }

    private static void oneMoreForItsParish() {
        CHECK.sentence("One that waits can be hung, if its stamp has, for its parish, 1 more than the board's"
                + " number");
        ParishBoards boards = Check.taught(THREE);
        int[] days = {9, 5, 3, 1};
        for (int s = 0; s < 4; s++) {
            boards.setDays(AB, days[s]);
            boards.write(0, s % 2, s);
            boards.send(AB);
        }
        int[] waiting = {0, 0, 1, 1, 2, 2, 3, 3, 3, 3, 0};
        for (int day = 0; day <= 10; day++) {
            CHECK.is("waiting ahead of day " + day, boards.parish(1, 1), waiting[day]);
            CHECK.is("known ahead of day " + day, boards.parish(1, 0), day == 10 ? 4 : 0);
            CHECK.is("hung on day " + day, boards.pass(1), day == 9 ? 4 : 0);
        }
        // Of those that wait only what follows at once can be hung: 0 and 1, and not 3 without 2.
        ParishBoards gap = Check.taught(THREE);
        int[] late = {2, 1, 8, 1};
        for (int s = 0; s < 4; s++) {
            gap.setDays(AB, late[s]);
            gap.write(0, 0, s);
            gap.send(AB);
        }
        CHECK.is("two on day 2", gap.pass(3), 2);
        knows(gap, 1, 2, 0, 0);
        CHECK.is("the last one waits", gap.parish(1, 1), 1);
        CHECK.is("none till day 8", gap.pass(5), 0);
        CHECK.is("two on day 8", gap.pass(1), 2);
        shown(gap, 1, 0, 3);
    }

    private static void noMoreForOthers() {
        CHECK.sentence("and for each other parish no more than the board's number.");
        // Sheet 2, of b, knows the sheets 0 and 1 of a; c knows none of a, one, two, or one more than that.
        for (int known = 0; known <= 3; known++) {
            ParishBoards boards = Check.taught(THREE.replace("days 3", "days 1"));
            for (int s = 0; s < 2; s++) {
                boards.write(0, 0, s);
                if (s < known) {
                    boards.send(AC);
                }
            }
            boards.send(AB);
            boards.pass(2);
            boards.setDays(BC, 9);
            CHECK.is("both go on, late", boards.send(BC), 2);
            stamp(boards, boards.write(1, 0, 2), 2, 1, 0);
            if (known == 3) {
                boards.write(0, 0, 3);
                boards.send(AC);
            }
            boards.setDays(BC, 1);
            CHECK.is("sheet 2 alone, early", boards.send(BC), 1);
            boards.pass(2);
            CHECK.is("waiting with " + known, boards.parish(2, 1), known >= 2 ? 0 : 1);
            knows(boards, 2, known, known >= 2 ? 1 : 0, 0);
            CHECK.is("hung as both have come", boards.pass(8), known >= 2 ? 0 : 3 - known);
            knows(boards, 2, Math.max(2, known), 1, 0);
        }
    }

    private static void hungInTheEnd() {
        CHECK.sentence("As it is hung, the board's number for its parish is 1 greater, it waits no longer, and, of"
                + " its notice, the board shows it");
        ParishBoards boards = Check.taught(THREE);
        boards.write(0, 1, 5);
        boards.send(AB);
        boards.pass(1);
        knows(boards, 1, 0, 0, 0);
        shown(boards, 1, 1);
        CHECK.is("hung", boards.pass(1), 1);
        knows(boards, 1, 1, 0, 0);
        CHECK.is("it waits no longer", boards.parish(1, 1), 0);
        shown(boards, 1, 1, 0);
        shown(boards, 1, 0);
        CHECK.is("shown by two", boards.sheet(0, 7), 2);
        CHECK.is("known by two", boards.sheet(0, 6), 2);
        CHECK.is("hung in all", boards.count(9), 1);
        // What is hung later, of another parish and of the same notice, hangs beside it.
        boards.write(2, 1, 6);
        boards.send(CA);
        boards.pass(3);
        shown(boards, 0, 1, 0, 1);
    }

    private static void thoseAheadAreTakenDown() {
        CHECK.sentence("and no longer those that are ahead of it.");
        ParishBoards boards = star(1, 2, 3, 4, 5);
        shown(boards, 4, 0, 1, 3, 5, 7, 9);
        boards.write(1, 0, 6);
        boards.write(3, 1, 7);
        boards.send(1);
        boards.send(3);
        boards.pass(2);
        // Sheet 10 takes down 3 alone; sheet 11 is of another notice, and takes down none.
        shown(boards, 4, 0, 1, 10, 5, 7, 9);
        shown(boards, 4, 1, 11);
        boards.write(3, 0, 8);
        boards.send(3);
        boards.pass(2);
        shown(boards, 4, 0, 1, 10, 5, 12, 9);
        shown(boards, 4, 1, 11);
        // What was merged at the last parish takes down that of the first one, too.
        ParishBoards back = Check.taught(THREE);
        back.write(0, 0, 1);
        back.write(2, 0, 2);
        back.send(AC);
        back.pass(4);
        back.send(CA);
        back.pass(3);
        shown(back, 0, 0, 0, 1);
        shown(back, 2, 0, 0, 1);
        back.merge(2, 0, 1);
        back.send(CA);
        back.pass(3);
        shown(back, 0, 0, 2);
        // A merged one takes down all that it merged, and not what is new.
        ParishBoards ring = Check.taught(THREE);
        ring.write(2, 0, 1);
        ring.write(0, 0, 2);
        ring.send(CA);
        ring.pass(3);
        ring.merge(0, 0, 1);
        ring.send(AC);
        ring.pass(1);
        shown(ring, 2, 0, 0);
        ring.pass(3);
        shown(ring, 2, 0, 2);
        ring.write(0, 0, 3);
        ring.write(2, 0, 4);
        ring.send(AC);
        ring.pass(4);
        shown(ring, 2, 0, 3, 4);
    }

    private static void byTheNumbersOfTheirParishes() {
        CHECK.sentence("A board shows sheets by the numbers of their parishes.");
        ParishBoards boards = Check.taught(THREE);
        boards.write(2, 0, 1);
        boards.write(0, 0, 2);
        boards.write(1, 0, 3);
        boards.send(BC);
        boards.pass(2);
        boards.send(AC);
        boards.pass(4);
        shown(boards, 2, 0, 1, 2, 0);
        boards.send(CA);
        boards.pass(3);
        shown(boards, 0, 0, 1, 2, 0);
        CHECK.noIndex("shown before the first", () -> boards.shown(2, 0, -1));
    }
}
