import java.math.BigInteger;

/** Promises 6 to 18 and 26: what each parameter can be, each exception and which of them comes first. */
public final class CallsBoundsTest {
    private static final Check CHECK = new Check();
    private static final int LEAST = Integer.MIN_VALUE;
    private static final int MOST = Integer.MAX_VALUE;
    /** The roads ab, bc and ba. */
    private static final String THREE = "parish a;parish b;parish c;notice n;notice m;"
            + "road ab from a to b days 2;road bc from b to c days 3;road ba from b to a days 1;"
            + "send bc when day=99;";

    private ParishBoards boards = new ParishBoards();
    private long before = 0;

    public static void main(String[] args) {
        CallsBoundsTest test = new CallsBoundsTest();
        test.counts();
        test.countsOfAllKinds();
        test.parishes();
        test.factsOfParishes();
        test.knownNumbers();
        test.sheets();
        test.factsOfSheets();
        test.stamps();
        test.placesShown();
        test.comparedSheets();
        test.roads();
        test.factsOfRoads();
        test.parishOrNoticeToWrite();
        test.valueToWrite();
        test.sixtyToWrite();
        test.parishOrNoticeToNote();
        test.markToNote();
        test.stateToNote();
        test.parishNoticeOrWayToMerge();
        test.stateToMerge();
        test.roadToSend();
        test.roadToSet();
        test.daysToSet();
        test.parishOrSheetUntil();
        test.firstNamedIsThrown();
        test.nothingIsChanged();
        test.noneOfANewObject();
        test.digestOfAll();
        test.digestWraps();
        CHECK.end("CallsBoundsTest");
    }

    /** Day 2: b shows the sheets 1, noted at a, and 2, its own; 3, of m, is under way from a to b. */
    private void begin() {
        boards = Check.taught(THREE);
        boards.write(0, 0, 10);
        boards.note(0, 0, 4);
        boards.write(1, 0, 20);
        boards.setDays(0, 1);
        boards.send(0);
        boards.pass(2);
        boards.setDays(0, 2);
        boards.write(0, 1, 30);
        boards.send(0);
        boards.feed(0, 0, 0, 0, 0);
        before = boards.digest();
    }

    /** All that was refused since the beginning has changed nothing. */
    private void unchanged() {
        CHECK.is("digest behind what was refused", boards.digest(), before);
        CHECK.is("errorAt behind it", boards.errorAt(), -1);
        CHECK.is("hung behind it", boards.foresee(60, 9), 3);
    }

    // ---- Promises 6 to 13

    private void counts() {
        CHECK.sentence("Throws `IndexOutOfBoundsException` if what is not 0 to 12");
        begin();
        CHECK.is("count 0", boards.count(0), 2);
        CHECK.is("count 12", boards.count(12), 20);
        for (int wrong : new int[] {-1, 13, LEAST, MOST}) {
            CHECK.noIndex("count " + wrong, () -> boards.count(wrong));
        }
        unchanged();
    }

    private void countsOfAllKinds() {
        CHECK.sentence("`what`: 0 the day, 1 parishes, 2 notices, 3 roads, 4 orders, 5 sheets that were made, 6"
                + " sheets under way on all roads (each once for a road), 7 sheets that wait at all boards, 8 of"
                + " how many notices boards are torn, of all boards, 9 sheets that were hung in all, but where they"
                + " were made, 10 merged sheets, 11 orders that were carried out in all, 12 bytes of the tape");
        begin();
        int[] due = {2, 3, 2, 3, 1, 4, 1, 0, 1, 2, 0, 0, 20};
        for (int what = 0; what <= 12; what++) {
            CHECK.is("count " + what, boards.count(what), due[what]);
        }
        boards.send(2);
        CHECK.is("under way on ba too", boards.count(6), 4);
        boards.send(1);
        CHECK.is("the same sheets under way on bc", boards.count(6), 7);
        boards.pass(2);
        CHECK.is("torn at b and at a", boards.count(8), 2);
        CHECK.is("hung at a, where two of them were made", boards.count(9), 3);
        boards.pass(2);
        CHECK.is("torn at three", boards.count(8), 3);
        boards.merge(0, 0, 1);
        CHECK.is("torn at two", boards.count(8), 2);
        CHECK.is("merged", boards.count(10), 1);
        boards.write(2, 1, 5);
        boards.write(1, 1, 5);
        boards.send(1);
        boards.pass(4);
        CHECK.is("torn of two notices at c, of one at b", boards.count(8), 3);
        CHECK.is("merged still", boards.count(10), 1);
        begin();
        for (int r = 0; r <= 2; r += 2) {
            boards.setDays(r, 9);
            boards.write(r / 2, 0, 1);
            boards.send(r);
            boards.setDays(r, 1);
            boards.write(r / 2, 0, 1);
            boards.write(r / 2, 1, 1);
            boards.send(r);
        }
        boards.pass(3);
        CHECK.is("waiting at a", boards.parish(0, 1), 2);
        CHECK.is("waiting at b", boards.parish(1, 1), 2);
        CHECK.is("waiting at all boards", boards.count(7), 4);
    }

    private void parishes() {
        CHECK.sentence("Throws `IndexOutOfBoundsException` if there is no such parish, or what is not 0 to 5");
        begin();
        CHECK.is("parish 0 0", boards.parish(0, 0), 3);
        CHECK.is("parish 2 5", boards.parish(2, 5), 0);
        CHECK.is("parish 1 5", boards.parish(1, 5), 2);
        for (int wrong : new int[] {-1, LEAST, MOST}) {
            CHECK.noIndex("parish " + wrong, () -> boards.parish(wrong, 0));
            CHECK.noIndex("what " + wrong, () -> boards.parish(0, wrong));
        }
        CHECK.noIndex("parish 3", () -> boards.parish(3, 0));
        CHECK.noIndex("parish 5", () -> boards.parish(5, 0));
        CHECK.noIndex("what 6", () -> boards.parish(2, 6));
        unchanged();
    }

    private void factsOfParishes() {
        CHECK.sentence("0 how many sheets its board knows, 1 how many wait there, 2 of how many notices it shows"
                + " any, 3 of how many it is torn, 4 how many sheets were made there, 5 roads that lead from it");
        begin();
        int[][] due = {{3, 0, 2, 0, 3, 1}, {3, 0, 1, 1, 1, 2}, {0, 0, 0, 0, 0, 0}};
        for (int p = 0; p < 3; p++) {
            for (int what = 0; what <= 5; what++) {
                CHECK.is("parish " + p + " " + what, boards.parish(p, what), due[p][what]);
            }
        }
        boards.setDays(0, 1);
        boards.write(0, 1, 5);
        boards.send(0);
        boards.pass(2);
        CHECK.is("one waits at b", boards.parish(1, 1), 1);
        CHECK.is("it isn't known", boards.parish(1, 0), 3);
        boards.pass(1);
        CHECK.is("none waits at b", boards.parish(1, 1), 0);
        CHECK.is("two notices shown", boards.parish(1, 2), 2);
        CHECK.is("torn of one", boards.parish(1, 3), 1);
    }

    private void knownNumbers() {
        CHECK.sentence("Returns the number of the board of the first one for the second one. Throws"
                + " `IndexOutOfBoundsException` if there is no such parish");
        begin();
        int[][] due = {{3, 0, 0}, {2, 1, 0}, {0, 0, 0}};
        for (int p = 0; p < 3; p++) {
            for (int q = 0; q < 3; q++) {
                CHECK.is("knows " + p + " " + q, boards.knows(p, q), due[p][q]);
            }
        }
        for (int wrong : new int[] {-1, 3, 4, 5, LEAST, MOST}) {
            CHECK.noIndex("knows of " + wrong, () -> boards.knows(wrong, 0));
            CHECK.noIndex("knows for " + wrong, () -> boards.knows(0, wrong));
            CHECK.noIndex("knows twice " + wrong, () -> boards.knows(wrong, wrong));
        }
        unchanged();
    }

    private void sheets() {
        CHECK.sentence("Throws `IndexOutOfBoundsException` if there is no such sheet, or what is not 0 to 7");
        begin();
        CHECK.is("sheet 0 0", boards.sheet(0, 0), 0);
        CHECK.is("sheet 3 7", boards.sheet(3, 7), 1);
        for (int wrong : new int[] {-1, LEAST, MOST}) {
            CHECK.noIndex("sheet " + wrong, () -> boards.sheet(wrong, 0));
            CHECK.noIndex("what " + wrong, () -> boards.sheet(0, wrong));
        }
        CHECK.noIndex("sheet 4", () -> boards.sheet(4, 0));
        CHECK.noIndex("sheet 60", () -> boards.sheet(60, 0));
        CHECK.noIndex("what 8", () -> boards.sheet(0, 8));
        unchanged();
    }

    private void factsOfSheets() {
        CHECK.sentence("0 its parish, 1 its notice, 2 its value, 3 the marks of its margin, as bits (1 for the mark"
                + " 0, 2 for 1 and so on, added), 4 its day, 5 0 if it was written, 1 noted, 2 merged, 6 how many"
                + " boards know it, 7 how many show it");
        begin();
        boards.note(0, 1, 0);
        boards.note(0, 1, 15);
        boards.merge(1, 0, 2);
        int[][] due = {{0, 0, 10, 0, 0, 0, 2, 0}, {0, 0, 10, 16, 0, 1, 2, 1}, {1, 0, 20, 0, 0, 0, 1, 0},
            {0, 1, 30, 0, 2, 0, 1, 0}, {0, 1, 30, 1, 2, 1, 1, 0}, {0, 1, 30, 32769, 2, 1, 1, 1},
            {1, 0, 30, 16, 2, 2, 1, 1}};
        for (int s = 0; s < due.length; s++) {
            for (int what = 0; what <= 7; what++) {
                CHECK.is("sheet " + s + " " + what, boards.sheet(s, what), due[s][what]);
            }
        }
    }

    private void stamps() {
        CHECK.sentence("Throws `IndexOutOfBoundsException` if there is no such sheet or parish");
        begin();
        int[][] due = {{1, 0, 0}, {2, 0, 0}, {0, 1, 0}, {3, 0, 0}};
        for (int s = 0; s < 4; s++) {
            for (int p = 0; p < 3; p++) {
                CHECK.is("stamp " + s + " " + p, boards.stamp(s, p), due[s][p]);
            }
        }
        for (int wrong : new int[] {-1, 4, 5, 60, LEAST, MOST}) {
            CHECK.noIndex("stamp of " + wrong, () -> boards.stamp(wrong, 0));
            CHECK.noIndex("stamp for " + wrong, () -> boards.stamp(0, wrong));
        }
        CHECK.noIndex("stamp for 3", () -> boards.stamp(3, 3));
        unchanged();
    }

    private void placesShown() {
        CHECK.sentence("Throws `IndexOutOfBoundsException` if there is no such parish or notice, or it shows none"
                + " there");
        begin();
        CHECK.is("shown 1 0 0", boards.shown(1, 0, 0), 1);
        CHECK.is("shown 1 0 1", boards.shown(1, 0, 1), 2);
        CHECK.is("shown 0 1 0", boards.shown(0, 1, 0), 3);
        CHECK.noIndex("behind the last of two", () -> boards.shown(1, 0, 2));
        CHECK.noIndex("behind the only one", () -> boards.shown(0, 0, 1));
        CHECK.noIndex("where none is", () -> boards.shown(1, 1, 0));
        CHECK.noIndex("at a board that shows none", () -> boards.shown(2, 0, 0));
        for (int wrong : new int[] {-1, 5, LEAST, MOST}) {
            CHECK.noIndex("place " + wrong, () -> boards.shown(1, 0, wrong));
            CHECK.noIndex("place " + wrong + " where none is", () -> boards.shown(2, 1, wrong));
            CHECK.noIndex("notice " + wrong, () -> boards.shown(1, wrong, 0));
            CHECK.noIndex("parish " + wrong, () -> boards.shown(wrong, 0, 0));
        }
        CHECK.noIndex("notice 2", () -> boards.shown(1, 2, 0));
        CHECK.noIndex("parish 3", () -> boards.shown(3, 0, 0));
        unchanged();
    }

    private void comparedSheets() {
        CHECK.sentence("Returns 0 if they are the same, 1 if the first one is ahead of the second one, 2 if the"
                + " second one is ahead of the first one, 3 if they did not know of each other. Throws"
                + " `IndexOutOfBoundsException` if there is no such sheet");
        begin();
        int[][] due = {{0, 1, 3, 1}, {2, 0, 3, 1}, {3, 3, 0, 3}, {2, 2, 3, 0}};
        for (int a = 0; a < 4; a++) {
            for (int b = 0; b < 4; b++) {
                CHECK.is("compare " + a + " " + b, boards.compare(a, b), due[a][b]);
            }
        }
        for (int wrong : new int[] {-1, 4, 59, 60, LEAST, MOST}) {
            CHECK.noIndex("compare " + wrong, () -> boards.compare(wrong, 0));
            CHECK.noIndex("compare with " + wrong, () -> boards.compare(0, wrong));
            CHECK.noIndex("compare with itself " + wrong, () -> boards.compare(wrong, wrong));
        }
        unchanged();
    }

    private void roads() {
        CHECK.sentence("Throws `IndexOutOfBoundsException` if there is no such road, or what is not 0 to 4");
        begin();
        CHECK.is("road 0 0", boards.road(0, 0), 0);
        CHECK.is("road 2 4", boards.road(2, 4), 0);
        for (int wrong : new int[] {-1, LEAST, MOST}) {
            CHECK.noIndex("road " + wrong, () -> boards.road(wrong, 0));
            CHECK.noIndex("what " + wrong, () -> boards.road(0, wrong));
        }
        CHECK.noIndex("road 3", () -> boards.road(3, 0));
        CHECK.noIndex("road 8", () -> boards.road(8, 0));
        CHECK.noIndex("what 5", () -> boards.road(0, 5));
        unchanged();
    }

    private void factsOfRoads() {
        CHECK.sentence("0 whence it leads, 1 whither, 2 its days, 3 sheets that are under way on it, 4 sendings on"
                + " it in all");
        begin();
        int[][] due = {{0, 1, 2, 1, 2}, {1, 2, 3, 0, 0}, {1, 0, 1, 0, 0}};
        for (int r = 0; r < 3; r++) {
            for (int what = 0; what <= 4; what++) {
                CHECK.is("road " + r + " " + what, boards.road(r, what), due[r][what]);
            }
        }
        boards.pass(2);
        CHECK.is("under way ahead of the day that brings it", boards.road(0, 3), 1);
        boards.pass(1);
        CHECK.is("not behind it", boards.road(0, 3), 0);
        CHECK.is("sendings still", boards.road(0, 4), 2);
    }

    // ---- Promises 14 to 18

    private void parishOrNoticeToWrite() {
        CHECK.sentence("Writes a sheet. - `parish`: the parish - `notice`: the notice - `value`: its value Returns"
                + " the sheet. Throws `IndexOutOfBoundsException` if there is no such parish or notice");
        begin();
        for (int wrong : new int[] {-1, 3, 5, LEAST, MOST}) {
            CHECK.noIndex("at " + wrong, () -> boards.write(wrong, 0, 0));
            CHECK.noIndex("of " + wrong, () -> boards.write(0, wrong, 0));
            CHECK.noIndex("at and of " + wrong, () -> boards.write(wrong, wrong, wrong));
        }
        CHECK.noIndex("of 2", () -> boards.write(0, 2, 0));
        unchanged();
        CHECK.is("at the last parish, of the last notice", boards.write(2, 1, 0), 4);
        CHECK.is("its parish", boards.sheet(4, 0), 2);
        CHECK.is("its notice", boards.sheet(4, 1), 1);
        CHECK.is("at the first parish, of the first notice", boards.write(0, 0, 0), 5);
    }

    private void valueToWrite() {
        CHECK.sentence("Throws `IllegalArgumentException` if value is not 0 to 9999");
        begin();
        for (int wrong : new int[] {-1, 10000, LEAST, MOST}) {
            CHECK.noArgument("value " + wrong, () -> boards.write(0, 0, wrong));
        }
        unchanged();
        CHECK.is("write 0", boards.write(0, 0, 0), 4);
        CHECK.is("write 9999", boards.write(0, 0, 9999), 5);
        CHECK.is("value 0", boards.sheet(4, 2), 0);
        CHECK.is("value 9999", boards.sheet(5, 2), 9999);
    }

    /** As many sheets as that, the new ones at c, of m. */
    private void fill(int sheets) {
        for (int s = boards.count(5); s < sheets; s++) {
            boards.write(2, 1, 1);
        }
        before = boards.digest();
    }

    private void sixtyToWrite() {
        CHECK.sentence("Throws `IllegalStateException` if there are 60 ");
        begin();
        fill(59);
        CHECK.is("the 60th", boards.write(0, 0, 1), 59);
        before = boards.digest();
        CHECK.noState("the 61st", () -> boards.write(0, 0, 1));
        CHECK.noState("the 61st at another", () -> boards.write(2, 1, 9999));
        unchanged();
    }

    private void parishOrNoticeToNote() {
        CHECK.sentence("Returns the new sheet. Throws `IndexOutOfBoundsException` if there is no such parish or"
                + " notice Throws `IllegalArgumentException` if mark is not 0 to 15");
        begin();
        for (int wrong : new int[] {-1, 3, 5, LEAST, MOST}) {
            CHECK.noIndex("at " + wrong, () -> boards.note(wrong, 0, 0));
            CHECK.noIndex("of " + wrong, () -> boards.note(0, wrong, 0));
            CHECK.noIndex("at and of " + wrong, () -> boards.note(wrong, wrong, 0));
        }
        CHECK.noIndex("of 2", () -> boards.note(0, 2, 0));
        unchanged();
        CHECK.is("of the first notice", boards.note(0, 0, 1), 4);
        CHECK.is("of the last notice", boards.note(0, 1, 1), 5);
        CHECK.is("its notice", boards.sheet(5, 1), 1);
    }

    private void markToNote() {
        CHECK.sentence("Throws `IllegalArgumentException` if mark is not 0 to 15");
        begin();
        for (int wrong : new int[] {-1, 16, 31, 32, LEAST, MOST}) {
            CHECK.noArgument("mark " + wrong, () -> boards.note(0, 0, wrong));
        }
        unchanged();
        CHECK.is("mark 0", boards.note(0, 0, 0), 4);
        CHECK.is("mark 15", boards.note(0, 0, 15), 5);
        CHECK.is("mark 15 again", boards.note(0, 0, 15), 6);
        CHECK.is("all marks", boards.sheet(6, 3), 1 | 16 | 32768);
    }

    private void stateToNote() {
        CHECK.sentence("Throws `IllegalStateException` if there are 60, or it cannot be");
        begin();
        CHECK.noState("where none is shown", () -> boards.note(2, 0, 0));
        CHECK.noState("where two are shown", () -> boards.note(1, 0, 0));
        unchanged();
        fill(59);
        CHECK.is("the 60th", boards.note(0, 0, 7), 59);
        before = boards.digest();
        CHECK.noState("the 61st", () -> boards.note(0, 0, 7));
        unchanged();
    }

    private void parishNoticeOrWayToMerge() {
        CHECK.sentence("Throws `IndexOutOfBoundsException` if there is no such parish or notice, or by is not 0 to"
                + " 2");
        begin();
        for (int wrong : new int[] {-1, 3, 5, LEAST, MOST}) {
            CHECK.noIndex("at " + wrong, () -> boards.merge(wrong, 0, 0));
            CHECK.noIndex("of " + wrong, () -> boards.merge(1, wrong, 0));
            CHECK.noIndex("by " + wrong, () -> boards.merge(1, 0, wrong));
            CHECK.noIndex("by " + wrong + " where it cannot be", () -> boards.merge(0, 0, wrong));
        }
        CHECK.noIndex("of 2", () -> boards.merge(1, 2, 0));
        unchanged();
        int[] due = {10, 20, 30};
        for (int by = 0; by <= 2; by++) {
            begin();
            CHECK.is("by " + by, boards.merge(1, 0, by), 4);
            CHECK.is("its value", boards.sheet(4, 2), due[by]);
        }
    }

    private void stateToMerge() {
        CHECK.sentence("Merges sheets. - `parish`: the parish - `notice`: the notice - `by`: 0 the least, 1 the"
                + " most, 2 the sum Returns the new sheet. Throws `IndexOutOfBoundsException` if there is no such"
                + " parish or notice, or by is not 0 to 2 Throws `IllegalStateException` if there are 60, or it"
                + " cannot be");
        for (int by = 0; by <= 2; by++) {
            int way = by;
            begin();
            CHECK.noState("where none is shown", () -> boards.merge(2, 0, way));
            CHECK.noState("where one is shown", () -> boards.merge(0, 0, way));
            unchanged();
            fill(59);
            CHECK.is("the 60th", boards.merge(1, 0, way), 59);
            begin();
            fill(60);
            CHECK.noState("the 61st", () -> boards.merge(1, 0, way));
            unchanged();
        }
    }

    private void roadToSend() {
        CHECK.sentence("Returns how many sheets are carried, 0 or more. Throws `IndexOutOfBoundsException` if there"
                + " is no such road");
        begin();
        for (int wrong : new int[] {-1, 3, 7, 8, LEAST, MOST}) {
            CHECK.noIndex("send " + wrong, () -> boards.send(wrong));
        }
        unchanged();
        CHECK.is("none by the first", boards.send(0), 0);
        CHECK.is("three by the last", boards.send(2), 3);
        CHECK.is("three by the middle one", boards.send(1), 3);
        boards.write(0, 0, 1);
        CHECK.is("one more by the first", boards.send(0), 1);
    }

    private void roadToSet() {
        CHECK.sentence("Returns those before. Throws `IndexOutOfBoundsException` if there is no such road");
        begin();
        for (int wrong : new int[] {-1, 3, 7, 8, LEAST, MOST}) {
            CHECK.noIndex("road " + wrong, () -> boards.setDays(wrong, 1));
            CHECK.noIndex("road " + wrong + " and days 0", () -> boards.setDays(wrong, 0));
            CHECK.noIndex("road " + wrong + " and days 10", () -> boards.setDays(wrong, 10));
        }
        unchanged();
        CHECK.is("of the first", boards.setDays(0, 4), 2);
        CHECK.is("of the first again", boards.setDays(0, 4), 4);
        CHECK.is("of the last", boards.setDays(2, 4), 1);
        CHECK.is("of the middle one, as it was", boards.road(1, 2), 3);
    }

    private void daysToSet() {
        CHECK.sentence("Throws `IndexOutOfBoundsException` if there is no such road Throws"
                + " `IllegalArgumentException` if days is not 1 to 9");
        begin();
        for (int wrong : new int[] {0, 10, -1, LEAST, MOST}) {
            CHECK.noArgument("days " + wrong, () -> boards.setDays(0, wrong));
            CHECK.noArgument("days " + wrong + " of the last", () -> boards.setDays(2, wrong));
        }
        unchanged();
        int days = 3;
        for (int next = 1; next <= 9; next++) {
            CHECK.is("set " + next, boards.setDays(1, next), days);
            CHECK.is("days of the road", boards.road(1, 2), next);
            days = next;
        }
    }

    private void parishOrSheetUntil() {
        CHECK.sentence("Throws `IndexOutOfBoundsException` if there is no such parish or sheet");
        begin();
        for (int wrong : new int[] {-1, 4, 5, 60, LEAST, MOST}) {
            CHECK.noIndex("parish " + wrong, () -> boards.until(wrong, 0));
            CHECK.noIndex("sheet " + wrong, () -> boards.until(0, wrong));
        }
        CHECK.noIndex("parish 3", () -> boards.until(3, 0));
        unchanged();
        CHECK.is("the last parish and sheet", boards.until(2, 3), -1);
        CHECK.is("the last sheet at b", boards.until(1, 3), 3);
        CHECK.is("the first ones", boards.until(0, 0), 0);
    }

    // ---- all methods

    private void firstNamedIsThrown() {
        CHECK.sentence("If several exceptions apply, the one that is named first is thrown.");
        begin();
        fill(60);
        CHECK.noIndex("write: all three", () -> boards.write(3, 0, -1));
        CHECK.noIndex("write: all three, by the notice", () -> boards.write(0, 2, 10000));
        CHECK.noIndex("write: the first and the last", () -> boards.write(0, -1, 0));
        CHECK.noArgument("write: the second and the last", () -> boards.write(0, 0, 10000));
        CHECK.noState("write: the last", () -> boards.write(0, 0, 9999));
        CHECK.noIndex("note: all three", () -> boards.note(3, 0, -1));
        CHECK.noIndex("note: all three, by the notice", () -> boards.note(0, 2, 16));
        CHECK.noIndex("note: the first and the last", () -> boards.note(-1, 0, 0));
        CHECK.noArgument("note: the second and the last", () -> boards.note(0, 0, 16));
        CHECK.noState("note: the last", () -> boards.note(0, 0, 15));
        CHECK.noIndex("merge: both, by the way", () -> boards.merge(1, 0, 3));
        CHECK.noIndex("merge: both, by the parish", () -> boards.merge(3, 0, 0));
        CHECK.noIndex("merge: both, by the notice", () -> boards.merge(0, 2, 0));
        CHECK.noState("merge: the last", () -> boards.merge(1, 0, 2));
        CHECK.noIndex("setDays: both", () -> boards.setDays(3, 0));
        CHECK.noArgument("setDays: the last", () -> boards.setDays(2, 0));
        CHECK.noArgument("foresee: both", () -> boards.foresee(0, 4));
        CHECK.noArgument("foresee: both too", () -> boards.foresee(61, 12));
        CHECK.noIndex("foresee: the last", () -> boards.foresee(60, 12));
        unchanged();
        begin();
        CHECK.noArgument("note: the second, and it cannot be", () -> boards.note(2, 0, 16));
        CHECK.noIndex("note: the first, and a wrong mark", () -> boards.note(0, 2, 16));
        CHECK.noIndex("merge: by 3, and it cannot be", () -> boards.merge(2, 0, 3));
        unchanged();
    }

    private void refuse() {
        CHECK.noIndex("count", () -> boards.count(13));
        CHECK.noIndex("parish", () -> boards.parish(0, 6));
        CHECK.noIndex("knows", () -> boards.knows(0, 3));
        CHECK.noIndex("sheet", () -> boards.sheet(0, 8));
        CHECK.noIndex("stamp", () -> boards.stamp(0, 3));
        CHECK.noIndex("shown", () -> boards.shown(0, 0, 1));
        CHECK.noIndex("compare", () -> boards.compare(0, 60));
        CHECK.noIndex("road", () -> boards.road(0, 5));
        CHECK.noArgument("write", () -> boards.write(0, 0, 10000));
        CHECK.noArgument("note", () -> boards.note(0, 0, 16));
        CHECK.noState("note where it cannot be", () -> boards.note(2, 0, 3));
        CHECK.noIndex("merge", () -> boards.merge(1, 0, 3));
        CHECK.noState("merge where it cannot be", () -> boards.merge(2, 0, 0));
        CHECK.noIndex("send", () -> boards.send(3));
        CHECK.noArgument("setDays", () -> boards.setDays(0, 10));
        CHECK.noArgument("pass", () -> boards.pass(61));
        CHECK.noArgument("pass of none", () -> boards.pass(0));
        CHECK.noArgument("foresee", () -> boards.foresee(61, 5));
        CHECK.noIndex("foresee of what", () -> boards.foresee(1, 4));
        CHECK.noIndex("until", () -> boards.until(0, 60));
        CHECK.noArgument("advise", () -> boards.advise(31));
        CHECK.noArgument("trim", () -> boards.trim(2000));
    }

    private void nothingIsChanged() {
        CHECK.sentence("A method that throws an exception changes nothing.");
        begin();
        ParishBoards plain = boards;
        begin();
        for (int i = 0; i < 9; i++) {
            refuse();
            CHECK.is("digest", boards.digest(), plain.digest());
            CHECK.is("write", boards.write(0, 0, i), plain.write(0, 0, i));
            CHECK.is("send", boards.send(0), plain.send(0));
            CHECK.is("pass", boards.pass(1), plain.pass(1));
        }
        CHECK.is("digest at last", boards.digest(), plain.digest());
        // A refused feed leaves the bytes of the tape, and their number.
        ParishBoards full = new ParishBoards();
        Check.put(full, "parish a;" + " ".repeat(1980) + "notice n;");
        CHECK.is("the tape", full.count(12), 1998);
        CHECK.noState("feed", () -> full.feed(-1, -1, -1, -1, -1));
        CHECK.noArgument("trim", () -> full.trim(1999));
        CHECK.is("the tape still", full.count(12), 1998);
        CHECK.is("teach of it", full.teach(), 0);
        CHECK.is("its notices", full.count(2), 1);
    }

    private void noneOfANewObject() {
        CHECK.sentence("Creates no parishes");
        ParishBoards empty = new ParishBoards();
        CHECK.noIndex("parish", () -> empty.parish(0, 0));
        CHECK.noIndex("knows", () -> empty.knows(0, 0));
        CHECK.noIndex("sheet", () -> empty.sheet(0, 0));
        CHECK.noIndex("stamp", () -> empty.stamp(0, 0));
        CHECK.noIndex("shown", () -> empty.shown(0, 0, 0));
        CHECK.noIndex("compare", () -> empty.compare(0, 0));
        CHECK.noIndex("road", () -> empty.road(0, 0));
        CHECK.noIndex("write", () -> empty.write(0, 0, 0));
        CHECK.noIndex("note", () -> empty.note(0, 0, 0));
        CHECK.noIndex("merge", () -> empty.merge(0, 0, 0));
        CHECK.noIndex("send", () -> empty.send(0));
        CHECK.noIndex("setDays", () -> empty.setDays(0, 1));
        CHECK.noIndex("until", () -> empty.until(0, 0));
        CHECK.is("pass", empty.pass(60), 0);
        CHECK.is("foresee", empty.foresee(60, 5), 0);
        // A parish without notices, and one without roads or sheets.
        ParishBoards bare = Check.taught("parish a;");
        CHECK.noIndex("shown without notices", () -> bare.shown(0, 0, 0));
        CHECK.noIndex("write without notices", () -> bare.write(0, 0, 0));
        CHECK.noIndex("note without notices", () -> bare.note(0, 0, 0));
        CHECK.noIndex("merge without notices", () -> bare.merge(0, 0, 0));
        CHECK.noIndex("send without roads", () -> bare.send(0));
        CHECK.noIndex("until without sheets", () -> bare.until(0, 0));
        CHECK.is("knows without sheets", bare.knows(0, 0), 0);
    }

    // ---- Promise 26

    private void digestOfAll() {
        CHECK.sentence("what count() tells; for each parish what parish() tells, then its numbers for all parishes,"
                + " then for each notice all sheets that it shows; for each sheet what sheet() tells, then its"
                + " stamp; for each road what road() tells (all in their order).");
        begin();
        int[] due = {
            2, 3, 2, 3, 1, 4, 1, 0, 1, 2, 0, 0, 20,
            3, 0, 2, 0, 3, 1, 3, 0, 0, 1, 3,
            3, 0, 1, 1, 1, 2, 2, 1, 0, 1, 2,
            0, 0, 0, 0, 0, 0, 0, 0, 0,
            0, 0, 10, 0, 0, 0, 2, 0, 1, 0, 0,
            0, 0, 10, 16, 0, 1, 2, 2, 2, 0, 0,
            1, 0, 20, 0, 0, 0, 1, 1, 0, 1, 0,
            0, 1, 30, 0, 2, 0, 1, 1, 3, 0, 0,
            0, 1, 2, 1, 2,
            1, 2, 3, 0, 0,
            1, 0, 1, 0, 0};
        CHECK.is("digest", boards.digest(), reckoned(due));
        CHECK.is("digest again", boards.digest(), reckoned(due));
    }

    private static long reckoned(int... numbers) {
        long d = 929;
        for (int number : numbers) {
            d = d * 31 + number;
        }
        return d;
    }

    private void digestWraps() {
        CHECK.sentence("A number d starts with 929; for each of the following numbers x, d becomes d * 31 + x,"
                + " which wraps around as a 64-bit integer");
        ParishBoards empty = new ParishBoards();
        // 929 * 31 to the 13th is more than 2 to the 63rd.
        BigInteger exact = BigInteger.valueOf(929).multiply(BigInteger.valueOf(31).pow(13));
        CHECK.holds("it is too great", exact.bitLength() > 63);
        CHECK.is("digest of a new object", empty.digest(), exact.longValue());
        empty.feed(0, 0, 0, 0, 0);
        CHECK.is("with twenty bytes", empty.digest(), exact.longValue() + 20);
        empty.pass(1);
        BigInteger day = BigInteger.valueOf(31).pow(12);
        CHECK.is("on day 1", empty.digest(), exact.add(day).longValue() + 20);
    }
}
