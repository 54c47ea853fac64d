/** Promises 14 to 18: what is done by hand. */
public final class HandTest {
    private static final Check CHECK = new Check();
    private static final String TWO = "parish a;parish b;notice n;notice m;"
            + "road ab from a to b days 1;road ba from b to a days 1;";

    public static void main(String[] args) {
        writing();
        noting();
        merging();
        fullOfSheets();
        sending();
        settingDays();
        CHECK.end("HandTest");
    }

    /** Sheets written at all boards, without knowing of each other, come together at the last one. */
    private static ParishBoards torn(int... values) {
        StringBuilder text = new StringBuilder("notice n;");
        int last = values.length - 1;
        for (int p = 0; p <= last; p++) {
            text.append("parish p").append(p).append(";");
        }
        for (int p = 0; p < last; p++) {
            text.append("road r").append(p).append(" from p").append(p).append(" to p").append(last).append(" days 1;");
        }
        ParishBoards boards = Check.taught(text.toString());
        for (int p = 0; p <= last; p++) {
            boards.write(p, 0, values[p]);
            boards.note(p, 0, p);
        }
        for (int r = 0; r < last; r++) {
            boards.send(r);
        }
        boards.pass(2);
        return boards;
    }

    private static void writing() {
        ParishBoards boards = Check.taught(TWO);
        CHECK.is("first sheet", boards.write(0, 0, 0), 0);
        CHECK.is("second sheet", boards.write(1, 1, 9999), 1);
        CHECK.is("greatest value", boards.sheet(1, 2), 9999);
        CHECK.is("least value", boards.sheet(0, 2), 0);
        CHECK.is("its parish", boards.sheet(1, 0), 1);
        CHECK.is("its notice", boards.sheet(1, 1), 1);
        CHECK.is("written", boards.sheet(1, 5), 0);
        CHECK.is("by hand is no order", boards.count(11), 0);
        boards.note(0, 0, 4);
        boards.write(0, 0, 8);
        CHECK.is("the marks stay in the margin", boards.sheet(3, 3), 16);
        boards.write(0, 1, 8);
        CHECK.is("not those of another notice", boards.sheet(4, 3), 0);
        long before = boards.digest();
        for (int wrong : new int[] {-1, 2, Integer.MIN_VALUE, Integer.MAX_VALUE}) {
            CHECK.noIndex("write at " + wrong, () -> boards.write(wrong, 0, 0));
            CHECK.noIndex("write of " + wrong, () -> boards.write(0, wrong, 0));
            CHECK.noIndex("write of " + wrong + " and value -1", () -> boards.write(0, wrong, -1));
        }
        for (int wrong : new int[] {-1, 10000, Integer.MIN_VALUE, Integer.MAX_VALUE}) {
            CHECK.noArgument("write value " + wrong, () -> boards.write(0, 0, wrong));
        }
        CHECK.is("refused writing changes nothing", boards.digest(), before);
    }

    private static void noting() {
        ParishBoards boards = Check.taught(TWO);
        CHECK.noState("note without a sheet", () -> boards.note(0, 0, 0));
        boards.write(0, 0, 77);
        CHECK.is("noted sheet", boards.note(0, 0, 15), 1);
        CHECK.is("its value", boards.sheet(1, 2), 77);
        CHECK.is("its margin", boards.sheet(1, 3), 1 << 15);
        CHECK.is("noted", boards.sheet(1, 5), 1);
        boards.note(0, 0, 0);
        CHECK.is("both marks", boards.sheet(2, 3), 1 << 15 | 1);
        CHECK.is("a mark can be in the margin already", boards.note(0, 0, 0), 3);
        CHECK.is("both marks still", boards.sheet(3, 3), 1 << 15 | 1);
        CHECK.noState("note of another notice", () -> boards.note(0, 1, 0));
        CHECK.noState("note at another board", () -> boards.note(1, 0, 0));
        long before = boards.digest();
        for (int wrong : new int[] {-1, 2, Integer.MIN_VALUE, Integer.MAX_VALUE}) {
            CHECK.noIndex("note at " + wrong, () -> boards.note(wrong, 0, 0));
            CHECK.noIndex("note of " + wrong, () -> boards.note(0, wrong, 16));
        }
        for (int wrong : new int[] {-1, 16, 32, Integer.MIN_VALUE, Integer.MAX_VALUE}) {
            CHECK.noArgument("note mark " + wrong, () -> boards.note(0, 0, wrong));
            CHECK.noArgument("note mark " + wrong + " without a sheet", () -> boards.note(1, 0, wrong));
        }
        CHECK.is("refused noting changes nothing", boards.digest(), before);
        ParishBoards two = torn(3, 4);
        CHECK.noState("note where it is torn", () -> two.note(1, 0, 5));
        CHECK.is("note where it is not", two.note(0, 0, 5), 4);
    }

    private static void merging() {
        int[] by = {3, 9, 19};
        for (int way = 0; way <= 2; way++) {
            ParishBoards boards = torn(7, 3, 9);
            CHECK.is("merged by " + way, boards.merge(2, 0, way), 6);
            CHECK.is("its value", boards.sheet(6, 2), by[way]);
            CHECK.is("its margin", boards.sheet(6, 3), 7);
            CHECK.is("merged", boards.sheet(6, 5), 2);
            CHECK.is("its day", boards.sheet(6, 4), 2);
            CHECK.is("shown alone", boards.shown(2, 0, 0), 6);
            CHECK.noIndex("no second one", () -> boards.shown(2, 0, 1));
            CHECK.noState("merge of one", () -> boards.merge(2, 0, 0));
            CHECK.is("no longer torn", boards.count(8), 0);
            CHECK.is("merged sheets", boards.count(10), 1);
        }
        for (int way = 0; way <= 2; way++) {
            ParishBoards zero = torn(0, 0);
            zero.merge(1, 0, way);
            CHECK.is("zeros merged by " + way, zero.sheet(4, 2), 0);
            ParishBoards nines = torn(9999, 9999);
            nines.merge(1, 0, way);
            CHECK.is("9999 merged by " + way, nines.sheet(4, 2), 9999);
        }
        ParishBoards much = torn(5000, 4999, 0);
        much.merge(2, 0, 2);
        CHECK.is("sum up to 9999", much.sheet(6, 2), 9999);
        ParishBoards more = torn(5000, 5000, 0);
        more.merge(2, 0, 2);
        CHECK.is("sum of 10000", more.sheet(6, 2), 9999);
        ParishBoards most = torn(9999, 9999, 9999, 9999, 9999);
        most.merge(4, 0, 2);
        CHECK.is("sum of five", most.sheet(10, 2), 9999);
        ParishBoards boards = torn(1, 2);
        long before = boards.digest();
        CHECK.noIndex("merge by 3", () -> boards.merge(1, 0, 3));
        CHECK.noIndex("merge by -1", () -> boards.merge(1, 0, -1));
        CHECK.noIndex("merge by 3 where it cannot be", () -> boards.merge(0, 0, 3));
        CHECK.noIndex("merge at 2", () -> boards.merge(2, 0, 0));
        CHECK.noIndex("merge at -1", () -> boards.merge(-1, 0, 0));
        CHECK.noIndex("merge of 1", () -> boards.merge(1, 1, 0));
        CHECK.noIndex("merge of -1", () -> boards.merge(1, -1, 0));
        CHECK.noState("merge where one is shown", () -> boards.merge(0, 0, 0));
        CHECK.is("refused merging changes nothing", boards.digest(), before);
        CHECK.noState("merge where none is shown", () -> Check.taught(TWO).merge(0, 0, 0));
    }

    private static void fullOfSheets() {
        ParishBoards boards = torn(1, 2);
        for (int i = 4; i < 60; i++) {
            CHECK.is("sheet " + i, boards.write(0, 0, i), i);
        }
        CHECK.is("sheets", boards.count(5), 60);
        long before = boards.digest();
        CHECK.noState("write of the 61st", () -> boards.write(0, 0, 0));
        CHECK.noState("note of the 61st", () -> boards.note(0, 0, 0));
        CHECK.noState("merge of the 61st", () -> boards.merge(1, 0, 0));
        CHECK.noArgument("write of a wrong value", () -> boards.write(0, 0, -1));
        CHECK.noArgument("note of a wrong mark", () -> boards.note(0, 0, 16));
        CHECK.noIndex("write of a wrong notice", () -> boards.write(0, 1, 0));
        CHECK.is("nothing is changed", boards.digest(), before);
        CHECK.is("all can be sent", boards.send(0), 56);
        CHECK.is("all can be hung", boards.pass(2), 56);
        CHECK.is("stamp of the last one", boards.stamp(59, 0), 58);
    }

    private static void sending() {
        ParishBoards boards = Check.taught(TWO);
        CHECK.is("nothing to send", boards.send(0), 0);
        boards.write(0, 0, 1);
        boards.write(1, 0, 2);
        CHECK.is("one to send", boards.send(0), 1);
        CHECK.is("not twice", boards.send(0), 0);
        CHECK.is("one sending", boards.road(0, 4), 1);
        boards.pass(2);
        CHECK.is("both, the one that came from there too", boards.send(1), 2);
        CHECK.noIndex("send 2", () -> boards.send(2));
        CHECK.noIndex("send -1", () -> boards.send(-1));
        CHECK.noIndex("send without roads", () -> new ParishBoards().send(0));
    }

    private static void settingDays() {
        ParishBoards boards = Check.taught(TWO);
        CHECK.is("days before", boards.setDays(0, 9), 1);
        CHECK.is("days then", boards.setDays(0, 4), 9);
        CHECK.is("days now", boards.road(0, 2), 4);
        CHECK.is("the other road's days", boards.road(1, 2), 1);
        boards.write(0, 0, 1);
        boards.send(0);
        CHECK.is("days of what is under way", boards.setDays(0, 1), 4);
        boards.write(0, 1, 2);
        CHECK.is("not come by day 3", boards.pass(4), 0);
        CHECK.is("come on day 4", boards.pass(1), 1);
        for (int wrong : new int[] {0, 10, -1, Integer.MIN_VALUE, Integer.MAX_VALUE}) {
            CHECK.noArgument("setDays " + wrong, () -> boards.setDays(0, wrong));
            CHECK.noIndex("setDays of road 2, " + wrong, () -> boards.setDays(2, wrong));
        }
        CHECK.noIndex("setDays of road -1", () -> boards.setDays(-1, 1));
        CHECK.is("days behind that", boards.road(0, 2), 1);
        boards.send(0);
        CHECK.is("come a day later", boards.pass(2), 1);
        Check.teach(boards, TWO);
        CHECK.is("days told anew", boards.road(0, 2), 1);
        Check.teach(boards, TWO.replace("days 1", "days 7"));
        boards.setDays(0, 2);
        CHECK.is("days are not those of the list", boards.road(0, 2), 2);
        CHECK.is("nor of the other road", boards.road(1, 2), 7);
    }
}
