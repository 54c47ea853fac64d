import java.nio.charset.StandardCharsets;

/** Promises 1 to 5, and part 1 of the terms: the tape, the list and its errors. */
public final class LanguageTest {
    private static final Check CHECK = new Check();
    private static final String BOARDS = "parish a;parish b;notice n;road r from a to b days 2;";

    public static void main(String[] args) {
        newObject();
        tape();
        tokens();
        grammar();
        depth();
        tooManyTokens();
        toldTwice();
        unknownNames();
        tooMany();
        roadErrors();
        firstErrorFromTheLeft();
        teaching();
        teachingOften();
        CHECK.end("LanguageTest");
    }

    /** Promise 1. */
    private static void newObject() {
        ParishBoards boards = new ParishBoards();
        for (int what = 0; what <= 12; what++) {
            CHECK.is("count " + what + " of a new object", boards.count(what), 0);
        }
        CHECK.is("errorAt of a new object", boards.errorAt(), -1);
        CHECK.noIndex("parish 0 of a new object", () -> boards.parish(0, 0));
        CHECK.noIndex("knows 0 of a new object", () -> boards.knows(0, 0));
        CHECK.noIndex("road 0 of a new object", () -> boards.road(0, 0));
        CHECK.noIndex("write of a new object", () -> boards.write(0, 0, 0));
        CHECK.is("pass of a new object", boards.pass(2), 0);
        CHECK.is("day behind two", boards.count(0), 2);
    }

    /** Promises 2 and 3. */
    private static void tape() {
        ParishBoards boards = new ParishBoards();
        CHECK.noArgument("trim 1 of nothing", () -> boards.trim(1));
        CHECK.is("trim 0 of nothing", boards.trim(0), 0);
        for (int i = 1; i <= 100; i++) {
            CHECK.is("feed " + i, boards.feed(-1, 0, 1, Integer.MIN_VALUE, Integer.MAX_VALUE), 20 * i);
        }
        CHECK.noState("feed 101", () -> boards.feed(0, 0, 0, 0, 0));
        CHECK.is("the tape behind a refused feed", boards.count(12), 2000);
        CHECK.noArgument("trim -1", () -> boards.trim(-1));
        CHECK.noArgument("trim 2001", () -> boards.trim(2001));
        CHECK.is("the tape behind a refused trim", boards.count(12), 2000);
        CHECK.is("trim 2000", boards.trim(2000), 2000);
        CHECK.is("trim 1981", boards.trim(1981), 1981);
        CHECK.noState("feed to 2001", () -> boards.feed(0, 0, 0, 0, 0));
        CHECK.is("trim 1980", boards.trim(1980), 1980);
        CHECK.is("feed to 2000", boards.feed(0, 0, 0, 0, 0), 2000);
        CHECK.is("trim 7", boards.trim(7), 7);
        CHECK.is("feed to 27", boards.feed(0, 0, 0, 0, 0), 27);
        CHECK.is("teach of nonsense", boards.teach(), 1);
        CHECK.is("the nonsense's first byte", boards.errorAt(), 0);
        CHECK.is("the tape behind teach", boards.count(12), 0);
        // "pari", "sh a", ";par", "ish ", "b;  ": the highest byte comes first.
        boards.feed(0x70617269, 0x73682061, 0x3b706172, 0x69736820, 0x623b2020);
        CHECK.is("teach of fed numbers", boards.teach(), 0);
        CHECK.is("their parishes", boards.count(1), 2);
        boards.feed(0x70617269, 0x73682061, 0x3b706172, 0x69736820, 0x623bff20);
        CHECK.is("teach of a byte above 127", boards.teach(), 1);
        CHECK.is("its place", boards.errorAt(), 18);
        Check.put(boards, "parish a;parish bbbbb");
        boards.trim(17);
        Check.put(boards, "c;");
        CHECK.is("teach of a tape cut and gone on with", boards.teach(), 0);
        CHECK.is("its parishes", boards.count(1), 2);
    }

    private static void error(String text, int error, int at) {
        ParishBoards boards = new ParishBoards();
        CHECK.is("teach of " + text, Check.teach(boards, text), error);
        CHECK.is("errorAt of " + text, boards.errorAt(), at);
    }

    private static void fine(String text) {
        error(text, 0, -1);
    }

    private static void tokens() {
        fine("");
        fine("  \n \n");
        fine("parish\na ; \n notice n;");
        fine("parish a;notice parish1;notice abcdefghij;notice a;notice to2;");
        error("parish abcdefghijk;", 1, 7);
        error("parish a\t;", 1, 8);
        error("parish a\r\n;", 1, 8);
        error("parish A;", 1, 7);
        error("parish aB;", 1, 8);
        error("parish 1a;", 1, 7);
        error("parish a.b;", 1, 8);
        error("parish a_b;", 1, 8);
        error("parish {;", 1, 7);
        error("parish `;", 1, 7);
        error("parish \u0000;", 1, 7);
        error("parish day;", 1, 7);
        error("parisha;", 1, 0);
        error("a parish;", 1, 0);
        error("parish a;  ", 0, -1);
        error("parish a", 1, 8);
        error("parish a  \n", 1, 11);
        error("parish", 1, 6);
        error("parish a;;", 1, 9);
        error("parish a;\n\n  ?", 1, 13);
        fine("parish a;parish b;road r from a to b days 000009;");
        fine("parish a;parish b;road r from a to b days 9;");
        error("parish a;parish b;road r from a to b days 0000009;", 1, 42);
        error("parish a;parish b;road r from a to b days 1234567;", 1, 42);
        error("parish a;parish b;road r from a to b days 12x;", 1, 44);
        error("parish a;parish b;road r from a to b days9;", 1, 37);
        // A number ends where a letter comes, so that a keyword can follow at once.
        fine(BOARDS + "send r when 1<=2and 3>=2or day<999999;");
        error(BOARDS + "send r when 1< =2;", 1, BOARDS.length() + 15);
        error(BOARDS + "send r when 1=<2;", 1, BOARDS.length() + 14);
        error(BOARDS + "send r when 1=>2;", 1, BOARDS.length() + 14);
        error(BOARDS + "send r when 1<<2;", 1, BOARDS.length() + 14);
        error(BOARDS + "send r when 1><2;", 1, BOARDS.length() + 14);
        error(BOARDS + "send r when 1!=2;", 1, BOARDS.length() + 13);
        error(BOARDS + "send r when 1==2;", 1, BOARDS.length() + 14);
    }

    private static void grammar() {
        for (String test : new String[] {"1=1", "1<2 and 2>1 or 3>=3", "not not 1<=2", "[1=1]", "torn a n",
                "known b n and not torn a n", "day = 3", "value a n + sheets b n * marks a n / waits b - 1 > 0",
                "min(1, 2) < max(day, -3)", "- - 3 = 3", "(((1)))=1", "[[1=1] or 2=2] and [3=3]",
                "min(min(1,2),max(3,4))=1", "1+2-3*4/5=-6", "-(1)=--1"}) {
            fine(BOARDS + "send r when " + test + ";");
            fine(BOARDS + "write a n as 1 when " + test + ";");
            fine(BOARDS + "note a n with 1 when " + test + ";");
            fine(BOARDS + "merge a n by sum when " + test + ";");
        }
        fine(BOARDS + "merge a n by least;merge a n by most;merge b n by sum;send r;");
        int start = BOARDS.length();
        error(BOARDS + "write a n as 1;", 1, start + 14);
        error(BOARDS + "note a n with 1;", 1, start + 15);
        error(BOARDS + "write a n with 1 when 1=1;", 1, start + 10);
        error(BOARDS + "note a n as 1 when 1=1;", 1, start + 9);
        error(BOARDS + "write a as 1 when 1=1;", 1, start + 8);
        error(BOARDS + "merge a n when 1=1;", 1, start + 10);
        error(BOARDS + "merge a n by min;", 1, start + 13);
        error(BOARDS + "merge a n by least most;", 1, start + 19);
        error(BOARDS + "send r when;", 1, start + 11);
        error(BOARDS + "send r r;", 1, start + 7);
        error(BOARDS + "send when 1=1;", 1, start + 5);
        error(BOARDS + "send r when 1;", 1, start + 13);
        error(BOARDS + "send r when 1 2;", 1, start + 14);
        error(BOARDS + "send r when 1 day = 1;", 1, start + 14);
        error(BOARDS + "send r when torn a n 1;", 1, start + 21);
        error(BOARDS + "send r when 1=1=1;", 1, start + 15);
        error(BOARDS + "send r when [1]=1;", 1, start + 14);
        error(BOARDS + "send r when (1=1);", 1, start + 14);
        error(BOARDS + "send r when torn a n = 1;", 1, start + 21);
        error(BOARDS + "send r when torn a;", 1, start + 18);
        error(BOARDS + "send r when waits a n = 1;", 1, start + 20);
        error(BOARDS + "send r when a = 1;", 1, start + 12);
        error(BOARDS + "send r when 1 = not 1;", 1, start + 16);
        error(BOARDS + "send r when -not 1=1;", 1, start + 13);
        error(BOARDS + "send r when + 1=1;", 1, start + 12);
        error(BOARDS + "send r when 1 + = 1;", 1, start + 16);
        error(BOARDS + "send r when 1 * * 1 = 1;", 1, start + 16);
        error(BOARDS + "send r when 1=1 and;", 1, start + 19);
        error(BOARDS + "send r when 1=1 or or 1=1;", 1, start + 19);
        error(BOARDS + "send r when 1=1 not 1=1;", 1, start + 16);
        error(BOARDS + "send r when min 1,2 = 1;", 1, start + 16);
        error(BOARDS + "send r when min(1) = 1;", 1, start + 17);
        error(BOARDS + "send r when min(1,2,3) = 1;", 1, start + 19);
        error(BOARDS + "send r when (1 = 1;", 1, start + 15);
        error(BOARDS + "send r when [1 = 1;", 1, start + 18);
        error(BOARDS + "send r when 1 = 1];", 1, start + 17);
        error(BOARDS + "send r when () = 1;", 1, start + 13);
        error("road r to a from b days 1;", 1, 7);
        error("road r from a to b;", 1, 18);
        error("road r from a to b days x;", 1, 24);
        error("road r from a to b days -1;", 1, 24);
        error("notice;", 1, 6);
        error("when 1=1;", 1, 0);
        error("write a n as 1 when 1=1", 1, 23);
    }

    private static void depth() {
        String start = BOARDS + "send r when ";
        int at = start.length();
        fine(start + "-------- 1 = 1;");
        error(start + "--------- 1 = 1;", 1, at + 8);
        fine(start + "((((((((1)))))))) = 1;");
        error(start + "(((((((((1))))))))) = 1;", 1, at + 8);
        fine(start + "[[[[[[[[1=1]]]]]]]];");
        error(start + "[[[[[[[[[1=1]]]]]]]]];", 1, at + 8);
        fine(start + "not not not not not not not not 1=1;");
        error(start + "not not not not not not not not not 1=1;", 1, at + 32);
        fine(start + "not [ not [ - ( - min(1,2) ) = 1 ] ];");
        error(start + "not [ not [ - ( - min((1),2) ) = 1 ] ];", 1, at + 22);
        error(start + "not [ not [ - ( - min(1,-2) ) = 1 ] ];", 1, at + 24);
        fine(start + "not [ not [ - ( - min(1,2) - 3) = -1 ] ] and [[1=1]];");
        // The depth is 9 behind the ( of min, so that it is told there and not at min.
        error(start + "--------min(1,2) = 1;", 1, at + 11);
        error(start + "[[[[[[[[max(1,2)=1]]]]]]]];", 1, at + 11);
        fine(start + "min(min(min(min(min(min(min(min(1,2),2),2),2),2),2),2),2) = 1;");
        fine(start + "min(2,min(2,min(2,min(2,min(2,min(2,min(2,max(2,1)))))))) = 1;");
        error(start + "min(2,min(2,min(2,min(2,min(2,min(2,min(2,max(2,(1))))))))) = 1;", 1, at + 48);
        fine(BOARDS + "write a n as ((((((((1)))))))) when 1=1;");
        fine(BOARDS + "note a n with -------- 1 when 1=1;");
        error(BOARDS + "write a n as --------- 1 when 1=1;", 1, BOARDS.length() + 21);
        fine(start + "1 = -------- 1 and [ 1 = ------- 1 ];");
        error(start + "[ 1 = -------- 1 ];", 1, at + 13);
        fine(start + "1 - 1 - 1 - 1 - 1 - 1 - 1 - 1 - 1 - 1 = 1 - -------- 1;");
        fine(start + "[[[[[[[[1=1]]]]]]]] or [[[[[[[[1=1]]]]]]]] and ((((((((1))))))))=((((((((1))))))));");
    }

    private static void tooManyTokens() {
        String start = "parish a;parish b;road r from a to b days 1;send r when 1";
        // 15 tokens and 4 for the order, then 2 for each addend, and = 1 ; at the end.
        String many = start + "+1".repeat(189);
        fine(many + "=1;");
        error(many + "=1;parish c;", 1, many.length() + 3);
        error(many + "=1;\n?", 1, many.length() + 4);
        fine(many + "=1;\n \n");
        error(many + "+1=1;", 1, many.length() + 3);
        error(many + "+1=1; ", 1, many.length() + 3);
        error(many + "+1", 1, many.length() + 2);
        error(many + "+1+?", 1, many.length() + 3);
    }

    private static void toldTwice() {
        error("parish a;parish a;", 2, 16);
        error("notice a;notice b;notice a;", 2, 25);
        error(BOARDS + "road r from b to a days 1;", 2, BOARDS.length() + 5);
        fine("parish a;notice a;parish b;road a from a to b days 1;");
        String[][] pairs = {{"a", "aa"}, {"b", "bb"}, {"a", "a0"}, {"z", "z0"}, {"z9", "z"}, {"a1", "b"},
            {"a9", "aa"}, {"az", "ba"}, {"z0", "za"}, {"aaaaaaaaaa", "baaaaaaaaa"}, {"aaaaaaaaaa", "aaaaaaaaa"},
            {"zzzzzzzzzz", "zzzzzzzzz9"}, {"day1", "da1"}, {"ab", "ba"}, {"a10", "a01"}, {"c", "b9"}};
        for (String[] pair : pairs) {
            fine("notice " + pair[0] + ";notice " + pair[1] + ";");
            error("notice " + pair[0] + ";notice " + pair[0] + ";", 2, 15 + pair[0].length());
            error("parish " + pair[0] + ";road r from " + pair[1] + " to x days 1;", 3, 20 + pair[0].length());
        }
        error("parish a;parish b;parish c;parish d;parish e;parish e;", 2, 52);
        error("notice a;notice b;notice c;notice d;notice e;notice f;notice a;", 2, 61);
        error(roads(8) + "road r0 from a to b days 1;", 2, roads(8).length() + 5);
    }

    private static void unknownNames() {
        error("road r from a to b days 1;", 3, 12);
        error("parish a;road r from a to b days 1;", 3, 26);
        error("parish a;notice b;road r from a to b days 1;", 3, 35);
        error("parish b;road r from a to b days 1;parish a;", 3, 21);
        error("send r;" + BOARDS, 3, 5);
        error(BOARDS + "send a;", 3, BOARDS.length() + 5);
        error(BOARDS + "write n n as 1 when 1=1;", 3, BOARDS.length() + 6);
        error(BOARDS + "write a a as 1 when 1=1;", 3, BOARDS.length() + 8);
        error(BOARDS + "note c n with 1 when 1=1;", 3, BOARDS.length() + 5);
        error(BOARDS + "note a r with 1 when 1=1;", 3, BOARDS.length() + 7);
        error(BOARDS + "merge r n by sum;", 3, BOARDS.length() + 6);
        error(BOARDS + "merge a m by sum;", 3, BOARDS.length() + 8);
        for (String what : new String[] {"torn %s", "known %s", "value %s = 1", "sheets %s = 1", "marks %s = 1"}) {
            int at = BOARDS.length() + 12 + what.indexOf(' ') + 1;
            error(BOARDS + "send r when " + what.replace("%s", "n n") + ";", 3, at);
            error(BOARDS + "send r when " + what.replace("%s", "b b") + ";", 3, at + 2);
            fine(BOARDS + "send r when " + what.replace("%s", "b n") + ";");
        }
        error(BOARDS + "send r when waits n = 1;", 3, BOARDS.length() + 18);
        error(BOARDS + "write a n as waits r when 1=1;", 3, BOARDS.length() + 19);
    }

    private static String roads(int count) {
        StringBuilder text = new StringBuilder("parish a;parish b;");
        for (int i = 0; i < count; i++) {
            text.append("road r").append(i).append(" from a to b days 1;");
        }
        return text.toString();
    }

    private static void tooMany() {
        fine("parish a;parish b;parish c;parish d;parish e;");
        error("parish a;parish b;parish c;parish d;parish e;parish f;", 4, 52);
        fine("notice a;notice b;notice c;notice d;notice e;notice f;");
        error("notice a;notice b;notice c;notice d;notice e;notice f;notice g;", 4, 61);
        fine(roads(8));
        error(roads(9), 4, roads(8).length() + 5);
        fine(BOARDS + "send r;".repeat(20));
        error(BOARDS + "send r;".repeat(21), 4, BOARDS.length() + 140);
        error(BOARDS + "send r;".repeat(40), 4, BOARDS.length() + 140);
        String each = "send r;merge a n by sum;note a n with 1 when 1=1;write a n as 1 when 1=1;";
        fine(BOARDS + each.repeat(5));
        for (String next : new String[] {"send x;", "merge x y by sum;", "note x y with 1 when 1=1;",
                "write x y as 1 when 1=1;"}) {
            error(BOARDS + each.repeat(5) + next, 4, BOARDS.length() + 5 * each.length());
        }
    }

    private static void roadErrors() {
        for (int days = 0; days <= 11; days++) {
            boolean can = days >= 1 && days <= 9;
            error("parish a;parish b;road r from a to b days " + days + ";", can ? 0 : 5, can ? -1 : 42);
        }
        error("parish a;parish b;road r from a to b days 999999;", 5, 42);
        error("parish a;road r from a to a days 1;", 5, 26);
        error("parish a;road r from a to a days 0;", 5, 26);
        error("parish a;road r from b to b days 1;", 3, 21);
    }

    private static void firstErrorFromTheLeft() {
        error("parish a;parish a;parish ?;", 1, 25);
        error("parish a;parish a;send r;", 2, 16);
        error("send r;parish a;parish a;", 3, 5);
        error("parish a;road r from a to x days 0;", 3, 26);
        error("parish a;parish b;road r from a to b days 0;send x;", 5, 42);
        error(roads(8) + "road r8 from x to y days 0;", 4, roads(8).length() + 5);
        error(BOARDS + "write x y as value z n when 1=1;", 3, BOARDS.length() + 6);
    }

    /** Promises 4 and 5. */
    private static void teaching() {
        ParishBoards boards = Check.taught(BOARDS + "write a n as 3 when day = 1;send r;");
        boards.pass(4);
        long before = boards.digest();
        CHECK.is("sheets told before", boards.count(5), 1);
        CHECK.is("teach with an error", Check.teach(boards, "parish c;parish c;"), 2);
        CHECK.is("its place", boards.errorAt(), 16);
        CHECK.is("all as it was", boards.digest(), before);
        CHECK.is("parishes as they were", boards.count(1), 2);
        CHECK.is("teach with too many orders", Check.teach(boards, BOARDS + "send r;".repeat(21)), 4);
        CHECK.is("teach with an error 1", Check.teach(boards, BOARDS + "write a n as 1 when"), 1);
        CHECK.is("all as it was still", boards.digest(), before);
        boards.pass(1);
        CHECK.is("hung by the orders told before", boards.count(9), 1);
        boards.write(0, 0, 1);
        boards.pass(3);
        CHECK.is("sent by the orders told before", boards.parish(1, 0), 2);
        CHECK.is("no days with an error", boards.count(0), 8);
        CHECK.is("the latest error stays told", boards.errorAt(), BOARDS.length() + 19);
        CHECK.is("teach anew", Check.teach(boards, "parish x;notice y;notice z;"), 0);
        CHECK.is("errorAt behind it", boards.errorAt(), -1);
        int[] due = {0, 1, 2, 0, 0, 0, 0, 0, 0, 0, 0, 0, 0};
        for (int what = 0; what <= 12; what++) {
            CHECK.is("count " + what + " anew", boards.count(what), due[what]);
        }
        CHECK.is("first sheet anew", boards.write(0, 1, 5), 0);
        CHECK.is("its stamp", boards.stamp(0, 0), 1);
        CHECK.is("teach of an empty tape", boards.teach(), 0);
        CHECK.is("no parishes then", boards.count(1), 0);
        CHECK.is("no sheets then", boards.count(5), 0);
        byte[] strange = "parish a;\u00e9".getBytes(StandardCharsets.ISO_8859_1);
        Check.put(boards, strange);
        CHECK.is("teach of a strange byte", boards.teach(), 1);
        CHECK.is("its place", boards.errorAt(), 9);
    }

    /** Nothing of an earlier list is left behind, however often lists are told on one object. */
    private static void teachingOften() {
        ParishBoards boards = new ParishBoards();
        String sum = "1+day*2-min(3,4)+".repeat(4);
        for (int i = 0; i < 16; i++) {
            String text = BOARDS + "write a n as " + sum + i + " when " + "1=1 and ".repeat(4) + "day=0;";
            CHECK.is("teach " + i, Check.teach(boards, text), 0);
            boards.pass(1);
            CHECK.is("value of list " + i, boards.sheet(0, 2), Math.max(0, 4 * (1 - 3) + i));
            CHECK.is("sheets of list " + i, boards.count(5), 1);
        }
        for (int i = 0; i < 3; i++) {
            CHECK.is("twenty orders, time " + i, Check.teach(boards, BOARDS + "send r;".repeat(20)), 0);
            CHECK.is("orders", boards.count(4), 20);
        }
        for (int i = 0; i < 3; i++) {
            CHECK.is("one order more, time " + i, Check.teach(boards, BOARDS + "send r;".repeat(21)), 4);
        }
    }
}
