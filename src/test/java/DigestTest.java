/** Promise 26: the checksum, reckoned once more from what the other calls answer. */
public final class DigestTest {
    private static final Check CHECK = new Check();
    private static final String TWO = "parish a;parish b;notice n;notice m;"
            + "road ab from a to b days 1;road ba from b to a days 3;send ba when day = 3;";

    public static void main(String[] args) {
        ParishBoards empty = new ParishBoards();
        long due = 929;
        for (int i = 0; i < 13; i++) {
            due *= 31;
        }
        CHECK.is("digest of a new object", empty.digest(), due);
        empty.feed(0, 0, 0, 0, 0);
        CHECK.is("digest with twenty bytes on the tape", empty.digest(), due + 20);

        ParishBoards boards = Check.taught(TWO);
        CHECK.is("digest without sheets", boards.digest(), reckoned(boards));
        boards.write(0, 0, 5);
        boards.note(0, 0, 15);
        boards.write(1, 0, 9999);
        CHECK.is("digest with sheets", boards.digest(), reckoned(boards));
        boards.send(0);
        boards.setDays(0, 4);
        CHECK.is("digest with sheets under way", boards.digest(), reckoned(boards));
        boards.pass(2);
        CHECK.is("digest of a torn board", boards.digest(), reckoned(boards));
        boards.merge(1, 0, 2);
        boards.write(0, 1, 3);
        boards.send(0);
        boards.pass(9);
        boards.feed(1, 2, 3, 4, 5);
        CHECK.is("digest at last", boards.digest(), reckoned(boards));
        CHECK.end("DigestTest");
    }

    private static long reckoned(ParishBoards boards) {
        long d = 929;
        for (int what = 0; what <= 12; what++) {
            d = d * 31 + boards.count(what);
        }
        for (int p = 0; p < boards.count(1); p++) {
            for (int what = 0; what <= 5; what++) {
                d = d * 31 + boards.parish(p, what);
            }
            for (int q = 0; q < boards.count(1); q++) {
                d = d * 31 + boards.knows(p, q);
            }
            for (int n = 0; n < boards.count(2); n++) {
                d = withShown(d, boards, p, n);
            }
        }
        for (int s = 0; s < boards.count(5); s++) {
            for (int what = 0; what <= 7; what++) {
                d = d * 31 + boards.sheet(s, what);
            }
            for (int p = 0; p < boards.count(1); p++) {
                d = d * 31 + boards.stamp(s, p);
            }
        }
        for (int r = 0; r < boards.count(3); r++) {
            for (int what = 0; what <= 4; what++) {
                d = d * 31 + boards.road(r, what);
            }
        }
        return d;
    }

    private static long withShown(long start, ParishBoards boards, int parish, int notice) {
        long d = start;
        try {
            for (int place = 0; place < 5; place++) {
                d = d * 31 + boards.shown(parish, notice, place);
            }
        } catch (IndexOutOfBoundsException noMore) {
            return d;
        }
        return d;
    }
}
