/** Promises 6 to 13, and part 2 of the terms: sheets, boards, roads, and what is told of them. */
public final class BoardsTest {
    private static final Check CHECK = new Check();
    /** Three parishes; the roads ab, bc, ac and ca lead from each to the other. */
    private static final String THREE = "parish a;parish b;parish c;notice n;notice m;"
            + "road ab from a to b days 1;road bc from b to c days 1;road ac from a to c days 3;"
            + "road ca from c to a days 2;";

    public static void main(String[] args) {
        counts();
        wrongIndexes();
        stampsAndAhead();
        heldBack();
        sideBySide();
        hangingTakesDownWhatIsAhead();
        dropped();
        roads();
        atTheFirstParish();
        waitingAsAllBeginsAnew();
        asMuchAsCanBe();
        waitingWithAllSheets();
        CHECK.end("BoardsTest");
    }

    private static void all(String what, int[] got, int... due) {
        for (int i = 0; i < due.length; i++) {
            CHECK.is(what + " " + i, got[i], due[i]);
        }
    }

    private static void counted(ParishBoards boards, int... due) {
        int[] got = new int[due.length];
        for (int what = 0; what < due.length; what++) {
            got[what] = boards.count(what);
        }
        all("count", got, due);
    }

    private static void parish(ParishBoards boards, int parish, int... due) {
        int[] got = new int[due.length];
        for (int what = 0; what < due.length; what++) {
            got[what] = boards.parish(parish, what);
        }
        all("parish " + parish, got, due);
    }

    private static void sheet(ParishBoards boards, int sheet, int... due) {
        int[] got = new int[due.length];
        for (int what = 0; what < due.length; what++) {
            got[what] = boards.sheet(sheet, what);
        }
        all("sheet " + sheet, got, due);
    }

    private static void road(ParishBoards boards, int road, int... due) {
        int[] got = new int[due.length];
        for (int what = 0; what < due.length; what++) {
            got[what] = boards.road(road, what);
        }
        all("road " + road, got, due);
    }

    private static void knows(ParishBoards boards, int parish, int... due) {
        int[] got = new int[due.length];
        for (int other = 0; other < due.length; other++) {
            got[other] = boards.knows(parish, other);
        }
        all("knows " + parish, got, due);
    }

    private static void stamp(ParishBoards boards, int sheet, int... due) {
        int[] got = new int[due.length];
        for (int parish = 0; parish < due.length; parish++) {
            got[parish] = boards.stamp(sheet, parish);
        }
        all("stamp of " + sheet, got, due);
    }

    private static void shown(ParishBoards boards, int parish, int notice, int... due) {
        for (int place = 0; place < due.length; place++) {
            CHECK.is("shown " + parish + " " + notice + " " + place, boards.shown(parish, notice, place), due[place]);
        }
        CHECK.noIndex("shown behind the last", () -> boards.shown(parish, notice, due.length));
        CHECK.noIndex("shown before the first", () -> boards.shown(parish, notice, -1));
    }

    private static void counts() {
        ParishBoards boards = Check.taught(THREE + "write c m as 7 when day = 1;send ca when day = 2;");
        counted(boards, 0, 3, 2, 4, 2, 0, 0, 0, 0, 0, 0, 0, 0);
        boards.write(0, 0, 5);
        boards.write(1, 0, 6);
        boards.send(0);
        counted(boards, 0, 3, 2, 4, 2, 2, 1, 0, 0, 0, 0, 0, 0);
        boards.pass(1);
        counted(boards, 1, 3, 2, 4, 2, 2, 1, 0, 0, 0, 0, 0, 0);
        boards.pass(1);
        counted(boards, 2, 3, 2, 4, 2, 3, 0, 0, 1, 1, 0, 1, 0);
        boards.merge(1, 0, 2);
        counted(boards, 2, 3, 2, 4, 2, 4, 0, 0, 0, 1, 1, 1, 0);
        boards.send(1);
        boards.send(2);
        counted(boards, 2, 3, 2, 4, 2, 4, 4, 0, 0, 1, 1, 1, 0);
        boards.feed(0, 0, 0, 0, 0);
        boards.pass(2);
        counted(boards, 4, 3, 2, 4, 2, 4, 2, 0, 0, 4, 1, 2, 20);
        parish(boards, 0, 1, 0, 1, 0, 1, 2);
        parish(boards, 1, 3, 0, 1, 0, 2, 1);
        parish(boards, 2, 4, 0, 2, 0, 1, 1);
    }

    private static void wrongIndexes() {
        ParishBoards boards = Check.taught(THREE);
        boards.write(0, 0, 1);
        for (int wrong : new int[] {-1, Integer.MIN_VALUE, Integer.MAX_VALUE, 13}) {
            CHECK.noIndex("count " + wrong, () -> boards.count(wrong));
            CHECK.noIndex("parish 0 " + wrong, () -> boards.parish(0, wrong));
            CHECK.noIndex("parish " + wrong, () -> boards.parish(wrong, 0));
            CHECK.noIndex("knows 0 " + wrong, () -> boards.knows(0, wrong));
            CHECK.noIndex("knows " + wrong, () -> boards.knows(wrong, 0));
            CHECK.noIndex("sheet 0 " + wrong, () -> boards.sheet(0, wrong));
            CHECK.noIndex("sheet " + wrong, () -> boards.sheet(wrong, 0));
            CHECK.noIndex("stamp 0 " + wrong, () -> boards.stamp(0, wrong));
            CHECK.noIndex("stamp " + wrong, () -> boards.stamp(wrong, 0));
            CHECK.noIndex("shown " + wrong, () -> boards.shown(wrong, 0, 0));
            CHECK.noIndex("shown 0 " + wrong, () -> boards.shown(0, wrong, 0));
            CHECK.noIndex("shown 0 0 " + wrong, () -> boards.shown(0, 0, wrong));
            CHECK.noIndex("compare 0 " + wrong, () -> boards.compare(0, wrong));
            CHECK.noIndex("compare " + wrong, () -> boards.compare(wrong, 0));
            CHECK.noIndex("road 0 " + wrong, () -> boards.road(0, wrong));
            CHECK.noIndex("road " + wrong, () -> boards.road(wrong, 0));
        }
        CHECK.noIndex("parish 3", () -> boards.parish(3, 0));
        CHECK.noIndex("parish fact 6", () -> boards.parish(0, 6));
        CHECK.noIndex("knows 3", () -> boards.knows(3, 0));
        CHECK.noIndex("knows of 3", () -> boards.knows(0, 3));
        CHECK.noIndex("sheet 1", () -> boards.sheet(1, 0));
        CHECK.noIndex("sheet fact 8", () -> boards.sheet(0, 8));
        CHECK.noIndex("stamp of 1", () -> boards.stamp(1, 0));
        CHECK.noIndex("stamp for 3", () -> boards.stamp(0, 3));
        CHECK.noIndex("shown of notice 2", () -> boards.shown(0, 2, 0));
        CHECK.noIndex("shown at 3", () -> boards.shown(3, 0, 0));
        CHECK.noIndex("compare with 1", () -> boards.compare(0, 1));
        CHECK.noIndex("compare 1", () -> boards.compare(1, 0));
        CHECK.noIndex("road 4", () -> boards.road(4, 0));
        CHECK.noIndex("road fact 5", () -> boards.road(0, 5));
        CHECK.is("parish fact 5", boards.parish(0, 5), 2);
        CHECK.is("sheet fact 7", boards.sheet(0, 7), 1);
        CHECK.is("road fact 4", boards.road(3, 4), 0);
        ParishBoards noNotices = Check.taught("parish a;");
        CHECK.noIndex("shown without notices", () -> noNotices.shown(0, 0, 0));
        CHECK.noIndex("road without roads", () -> noNotices.road(0, 0));
        CHECK.is("knows itself", noNotices.knows(0, 0), 0);
    }

    private static void stampsAndAhead() {
        ParishBoards boards = Check.taught(THREE);
        boards.write(0, 0, 10);
        boards.write(0, 1, 11);
        boards.write(1, 0, 12);
        stamp(boards, 0, 1, 0, 0);
        stamp(boards, 1, 2, 0, 0);
        stamp(boards, 2, 0, 1, 0);
        CHECK.is("a sheet with itself", boards.compare(1, 1), 0);
        CHECK.is("ahead, of another notice", boards.compare(0, 1), 1);
        CHECK.is("behind", boards.compare(1, 0), 2);
        CHECK.is("apart", boards.compare(1, 2), 3);
        CHECK.is("apart too", boards.compare(2, 0), 3);
        boards.send(0);
        boards.pass(2);
        boards.write(1, 1, 13);
        stamp(boards, 3, 2, 2, 0);
        knows(boards, 1, 2, 2, 0);
        knows(boards, 0, 2, 0, 0);
        CHECK.is("known where it was made", boards.compare(0, 3), 1);
        CHECK.is("the other way", boards.compare(3, 1), 2);
        boards.write(0, 0, 14);
        CHECK.is("not known yet", boards.compare(4, 3), 3);
        sheet(boards, 3, 1, 1, 13, 0, 2, 0, 1, 1);
        sheet(boards, 0, 0, 0, 10, 0, 0, 0, 2, 1);
        sheet(boards, 4, 0, 0, 14, 0, 2, 0, 1, 1);
    }

    /** A sheet that came before what was known to it waits, and is hung on the day that brings that. */
    private static void heldBack() {
        ParishBoards boards = Check.taught(THREE);
        boards.write(0, 0, 1);
        boards.send(2);
        boards.send(0);
        boards.pass(2);
        boards.write(1, 0, 2);
        boards.setDays(1, 1);
        CHECK.is("both go on", boards.send(1), 2);
        // The road ac brings sheet 0 on day 3, and so does bc, together with sheet 1.
        boards.pass(1);
        parish(boards, 2, 0, 0, 0, 0, 0, 1);
        CHECK.is("hung on day 3", boards.pass(1), 2);
        shown(boards, 2, 0, 1);

        ParishBoards early = Check.taught(THREE);
        early.write(0, 0, 1);
        early.send(0);
        early.pass(2);
        early.send(1);
        early.setDays(1, 9);
        early.write(1, 1, 2);
        early.pass(1);
        early.write(1, 0, 3);
        early.send(1);
        early.setDays(1, 1);
        early.write(1, 0, 4);
        early.send(1);
        early.pass(1);
        early.pass(1);
        CHECK.is("the last came first and waits", early.parish(2, 1), 1);
        CHECK.is("waiting in all", early.count(7), 1);
        CHECK.is("not shown as it waits", early.sheet(3, 7), 1);
        CHECK.is("not known as it waits", early.sheet(3, 6), 1);
        shown(early, 2, 0, 0);
        CHECK.is("none is sent that waits", early.send(3), 1);
        early.pass(7);
        CHECK.is("still waiting", early.parish(2, 1), 1);
        CHECK.is("all hung at once", early.pass(1), 3);
        CHECK.is("no more waiting", early.parish(2, 1), 0);
        shown(early, 2, 0, 3);
        shown(early, 2, 1, 1);
        knows(early, 2, 1, 3, 0);
    }

    private static void sideBySide() {
        ParishBoards boards = Check.taught(THREE);
        boards.write(1, 0, 40);
        boards.note(1, 0, 3);
        boards.write(0, 0, 30);
        boards.note(0, 0, 15);
        boards.send(0);
        boards.pass(2);
        shown(boards, 1, 0, 3, 1);
        shown(boards, 0, 0, 3);
        shown(boards, 1, 1);
        CHECK.is("torn", boards.parish(1, 3), 1);
        CHECK.is("torn in all", boards.count(8), 1);
        CHECK.is("of one notice", boards.parish(1, 2), 1);
        CHECK.is("shown by two", boards.sheet(3, 7), 2);
        CHECK.is("shown by one", boards.sheet(1, 7), 1);
        CHECK.is("shown by none", boards.sheet(0, 7), 0);
        int written = boards.write(1, 0, 50);
        sheet(boards, written, 1, 0, 50, 1 << 3 | 1 << 15, 2, 0, 1, 1);
        shown(boards, 1, 0, written);
        stamp(boards, written, 2, 3, 0);
    }

    private static void hangingTakesDownWhatIsAhead() {
        ParishBoards boards = Check.taught(THREE);
        boards.write(0, 0, 1);
        boards.send(2);
        boards.write(2, 0, 2);
        boards.write(2, 1, 3);
        boards.pass(4);
        shown(boards, 2, 0, 0, 1);
        boards.write(0, 0, 4);
        boards.send(2);
        boards.pass(4);
        // Sheet 0 is ahead of sheet 3, sheet 1 is not, and sheet 2 is of another notice.
        shown(boards, 2, 0, 3, 1);
        shown(boards, 2, 1, 2);
        boards.send(3);
        boards.pass(3);
        shown(boards, 0, 0, 3, 1);
        boards.merge(0, 0, 0);
        boards.send(2);
        boards.pass(4);
        shown(boards, 2, 0, 4);
        shown(boards, 2, 1, 2);
        boards.write(0, 1, 5);
        boards.send(2);
        boards.pass(4);
        shown(boards, 2, 0, 4);
        shown(boards, 2, 1, 5);
    }

    private static void dropped() {
        ParishBoards boards = Check.taught(THREE);
        boards.write(0, 0, 1);
        boards.send(0);
        boards.pass(2);
        boards.send(1);
        boards.send(2);
        CHECK.is("two are under way", boards.count(6), 2);
        boards.pass(2);
        CHECK.is("one of them is hung", boards.count(9), 2);
        boards.pass(2);
        CHECK.is("the other one is dropped", boards.count(9), 2);
        CHECK.is("none waits", boards.count(7), 0);
        boards.send(3);
        boards.pass(3);
        CHECK.is("dropped where it was made", boards.count(9), 2);
        knows(boards, 0, 1, 0, 0);

        // The same sheet comes to wait twice.
        ParishBoards twice = Check.taught("parish a;parish b;parish c;notice n;road ab from a to b days 1;"
                + "road ac from a to c days 1;road bc from b to c days 1;");
        twice.write(0, 0, 1);
        twice.send(0);
        twice.setDays(1, 9);
        twice.send(1);
        twice.pass(2);
        twice.setDays(2, 8);
        twice.send(2);
        twice.write(0, 0, 2);
        twice.send(0);
        twice.setDays(1, 1);
        twice.send(1);
        twice.pass(2);
        twice.setDays(2, 1);
        twice.send(2);
        CHECK.is("it waits once", twice.parish(2, 1), 1);
        twice.pass(2);
        CHECK.is("it waits once still", twice.parish(2, 1), 1);
        CHECK.is("waiting in all", twice.count(7), 1);
        twice.pass(10);
        parish(twice, 2, 2, 0, 1, 0, 0, 0);
        CHECK.is("hung in all", twice.count(9), 4);
    }

    private static void roads() {
        ParishBoards boards = Check.taught(THREE);
        road(boards, 0, 0, 1, 1, 0, 0);
        road(boards, 1, 1, 2, 1, 0, 0);
        road(boards, 2, 0, 2, 3, 0, 0);
        road(boards, 3, 2, 0, 2, 0, 0);
        CHECK.is("nothing to send", boards.send(2), 0);
        road(boards, 2, 0, 2, 3, 0, 0);
        boards.write(0, 0, 1);
        boards.write(0, 1, 2);
        boards.send(2);
        road(boards, 2, 0, 2, 3, 2, 1);
        boards.pass(1);
        boards.write(0, 1, 3);
        boards.setDays(2, 1);
        boards.send(2);
        road(boards, 2, 0, 2, 1, 3, 2);
        boards.pass(1);
        road(boards, 2, 0, 2, 1, 3, 2);
        boards.pass(1);
        road(boards, 2, 0, 2, 1, 2, 2);
        CHECK.is("the last of them waits", boards.parish(2, 1), 1);
        boards.pass(1);
        road(boards, 2, 0, 2, 1, 0, 2);
        parish(boards, 2, 3, 0, 2, 0, 0, 1);
        CHECK.is("nothing is sent twice on a road", boards.send(2), 0);
        road(boards, 2, 0, 2, 1, 0, 2);
        CHECK.is("but on another one", boards.send(0), 3);
    }

    private static void atTheFirstParish() {
        ParishBoards boards = Check.taught("parish a;parish b;notice n;road ba from b to a days 9;");
        boards.write(0, 0, 1);
        boards.write(1, 0, 2);
        boards.send(0);
        boards.setDays(0, 1);
        boards.write(1, 0, 3);
        boards.send(0);
        boards.pass(2);
        CHECK.is("waits at the first", boards.count(7), 1);
        boards.pass(8);
        CHECK.is("torn at the first", boards.count(8), 1);
        shown(boards, 0, 0, 0, 2);
    }

    private static void waitingAsAllBeginsAnew() {
        ParishBoards boards = new ParishBoards();
        for (int time = 0; time < 3; time++) {
            Check.teach(boards, THREE);
            CHECK.is("none waits anew", boards.count(7), 0);
            boards.setDays(0, 9);
            boards.write(0, 0, 1);
            boards.send(0);
            boards.setDays(0, 1);
            boards.write(0, 0, 2);
            boards.send(0);
            boards.pass(3);
            parish(boards, 1, 0, 1, 0, 0, 0, 1);
            CHECK.is("foreseen to be hung", boards.foresee(9, 9), 2);
            if (time < 2) {
                continue;
            }
            CHECK.is("hung", boards.pass(9), 2);
        }
    }

    /** Five parishes in a ring, six notices, eight roads, sixty sheets. */
    private static void asMuchAsCanBe() {
        StringBuilder text = new StringBuilder();
        for (int p = 0; p < 5; p++) {
            text.append("parish p").append(p).append(";");
        }
        for (int n = 0; n < 6; n++) {
            text.append("notice n").append(n).append(";");
        }
        for (int r = 0; r < 8; r++) {
            text.append("road r").append(r).append(" from p").append(r % 5).append(" to p").append((r + 1 + r / 5) % 5)
                    .append(" days 1;send r").append(r).append(";");
        }
        ParishBoards boards = Check.taught(text.toString());
        for (int s = 0; s < 30; s++) {
            boards.write(s % 5, s / 5, s);
        }
        knows(boards, 4, 0, 0, 0, 0, 6);
        CHECK.is("foreseen to be torn", boards.foresee(20, 8), 30);
        CHECK.is("by two roads of a day each", boards.until(4, 0), 4);
        CHECK.is("by one road", boards.until(0, 29), 2);
        CHECK.is("advice", boards.advise(30), -1);
        CHECK.is("each is hung at four", boards.pass(30), 120);
        CHECK.is("advice with nothing to send", boards.advise(30), -1);
        CHECK.holds("all are alike", boards.alike());
        for (int p = 0; p < 5; p++) {
            parish(boards, p, 30, 0, 6, 6, 6, p < 3 ? 2 : 1);
            for (int n = 0; n < 6; n++) {
                shown(boards, p, n, 5 * n, 5 * n + 1, 5 * n + 2, 5 * n + 3, 5 * n + 4);
            }
        }
        for (int s = 30; s < 60; s++) {
            CHECK.is("merged " + s, boards.merge(s % 5, s / 5 - 6, 1), s);
            CHECK.is("the most of them", boards.sheet(s, 2), s / 5 * 5 - 26);
        }
        sheet(boards, 29, 4, 5, 29, 0, 0, 0, 5, 0);
        CHECK.is("the first that is missed", boards.missed(), 30);
        long before = boards.digest();
        CHECK.is("foreseen to be hung", boards.foresee(30, 9), 240);
        CHECK.is("the last one known at the first", boards.until(0, 59), 2);
        CHECK.is("a road that brings more in a day", boards.advise(1), -1);
        CHECK.is("nothing is changed", boards.digest(), before);
        CHECK.is("each of them is hung at four", boards.pass(30), 120);
        counted(boards, 60, 5, 6, 8, 8, 60, 0, 0, 30, 240, 30, boards.count(11), 0);
        sheet(boards, 59, 4, 5, 29, 0, 30, 2, 5, 5);
        stamp(boards, 59, 6, 6, 6, 6, 12);
        knows(boards, 0, 12, 12, 12, 12, 12);
        shown(boards, 2, 5, 55, 56, 57, 58, 59);
        CHECK.is("none is missed", boards.missed(), -1);
        CHECK.holds("all are alike again", boards.alike());
    }

    private static void waitingWithAllSheets() {
        ParishBoards boards = Check.taught(THREE);
        boards.setDays(0, 9);
        boards.write(0, 0, 0);
        boards.send(0);
        boards.setDays(0, 1);
        for (int s = 1; s < 60; s++) {
            boards.write(0, s % 2, s);
        }
        CHECK.is("the other ones", boards.send(0), 59);
        boards.pass(3);
        parish(boards, 1, 0, 59, 0, 0, 0, 1);
        CHECK.is("all are hung at once", boards.pass(9), 60);
        shown(boards, 1, 0, 58);
        shown(boards, 1, 1, 59);
    }
}
