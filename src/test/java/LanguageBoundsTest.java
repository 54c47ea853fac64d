import java.util.Arrays;
import java.util.HashSet;
import java.util.Set;

/** "1. The language" and promises 1 to 5, sentence by sentence: each bound, and one beyond it. */
public final class LanguageBoundsTest {
    private static final Check CHECK = new Check();
    private static final String BOARDS = "parish a;parish b;notice n;road r from a to b days 2;";
    private static final String TEST = BOARDS + "send r when ";
    private static final Set<String> KEYWORDS = new HashSet<>(Arrays.asList((
            "parish road from to days notice write note merge send as with by least most sum when day value sheets "
            + "marks waits torn known not and or min max").split(" ")));

    public static void main(String[] args) {
        newObject();
        tapeOfAtMost2000Bytes();
        tapeAtFirstEmpty();
        tapeEmptyBehindTeach();
        eachOfTwentyBytes();
        trimmed();
        tooLittleToTrim();
        blanksAndLineEnds();
        blanksBetweenWhatWouldBeOne();
        longestToken();
        words();
        wordsOfTenBytes();
        numbersOfSixDigits();
        symbols();
        keywords();
        allOtherWordsAreNames();
        linesOfAList();
        testsThatCanBeLeftOut();
        whatStandsAnyNumberOfTimes();
        depthOfEight();
        depthBehindWhatIsClosed();
        depthOfWhatATurnTurns();
        depthInAllOrders();
        errorAtTheEnd();
        errorAtTheToken401();
        errorAtItsFirstByte();
        errorOneComesFirst();
        smallestNumberAtOneToken();
        toldAhead();
        sameByAllBytes();
        noneOfWhatItHasToBe();
        atMostSoMany();
        ordersOfAllKinds();
        daysOfARoad();
        roadToItsOwnParish();
        numberedFromZero();
        latestError();
        allStaysWithAnError();
        allBeginsAnew();
        CHECK.end("LanguageBoundsTest");
    }

    private static void error(String text, int error, int at) {
        ParishBoards boards = new ParishBoards();
        CHECK.is("teach of " + text, Check.teach(boards, text), error);
        CHECK.is("errorAt of " + text, boards.errorAt(), at);
    }

    private static void fine(String text) {
        error(text, 0, -1);
    }

    // ---- Promises 1 to 3: the tape

    private static void newObject() {
        CHECK.sentence("Creates no parishes, on the day 0.");
        ParishBoards boards = new ParishBoards();
        for (int what = 0; what <= 12; what++) {
            CHECK.is("count " + what, boards.count(what), 0);
        }
        CHECK.noIndex("parish 0", () -> boards.parish(0, 0));
        CHECK.noIndex("write", () -> boards.write(0, 0, 0));
        CHECK.is("missed", boards.missed(), -1);
        CHECK.is("errorAt", boards.errorAt(), -1);
    }

    private static ParishBoards blank(int feeds) {
        ParishBoards boards = new ParishBoards();
        for (int i = 1; i <= feeds; i++) {
            CHECK.is("feed " + i, boards.feed(0x20202020, 0x20202020, 0x20202020, 0x20202020, 0x20202020), 20 * i);
        }
        return boards;
    }

    private static void tapeOfAtMost2000Bytes() {
        CHECK.sentence("if there would be more than 2000");
        ParishBoards boards = blank(100);
        CHECK.noState("feed to 2020", () -> boards.feed(1, 1, 1, 1, 1));
        CHECK.is("the tape", boards.count(12), 2000);
        boards.trim(1981);
        CHECK.noState("feed to 2001", () -> boards.feed(1, 1, 1, 1, 1));
        CHECK.is("the tape of 1981", boards.count(12), 1981);
        boards.trim(1980);
        CHECK.is("feed to 2000", boards.feed(0x20202020, 0x20202020, 0x20202020, 0x20202020, 0x20202020), 2000);
        CHECK.is("teach of blanks, and none of what was refused", boards.teach(), 0);

        CHECK.sentence("The tape is a row of at most 2000 bytes");
        ParishBoards full = blank(99);
        // "parish elm;parish o;": the last byte of the tape is the ; of the last line.
        CHECK.is("feed to 2000", full.feed(0x70617269, 0x73682065, 0x6c6d3b70, 0x61726973, 0x68206f3b), 2000);
        CHECK.is("teach of 2000 bytes", full.teach(), 0);
        CHECK.is("parishes at its end", full.count(1), 2);
        ParishBoards less = blank(99);
        less.feed(0x70617269, 0x73682065, 0x6c6d3b70, 0x61726973, 0x68206f3b);
        less.trim(1999);
        CHECK.is("teach of 1999 bytes", less.teach(), 1);
        CHECK.is("its end", less.errorAt(), 1999);
        ParishBoards strange = blank(99);
        strange.feed(0x20202020, 0x20202020, 0x20202020, 0x20202020, 0x2020203f);
        CHECK.is("teach of 2000 bytes with a wrong one", strange.teach(), 1);
        CHECK.is("the last byte", strange.errorAt(), 1999);
    }

    private static void tapeAtFirstEmpty() {
        CHECK.sentence("at first empty, which feed and trim fill");
        ParishBoards boards = new ParishBoards();
        CHECK.is("the tape", boards.count(12), 0);
        CHECK.noArgument("trim 1", () -> boards.trim(1));
        CHECK.is("trim 0", boards.trim(0), 0);
        CHECK.is("teach", boards.teach(), 0);
        CHECK.is("errorAt", boards.errorAt(), -1);
        CHECK.is("feed", boards.feed(0, 0, 0, 0, 0), 20);
    }

    private static void tapeEmptyBehindTeach() {
        CHECK.sentence("and it is empty behind it");
        String[] lists = {"parish a;", "?", "parish a;parish a;", "send r;",
            "parish a;parish b;parish c;parish d;parish e;parish f;", "parish a;parish b;road r from a to b days 0;"};
        for (int due = 0; due <= 5; due++) {
            ParishBoards boards = new ParishBoards();
            CHECK.is("teach", Check.teach(boards, lists[due]), due);
            CHECK.is("the tape behind the answer " + due, boards.count(12), 0);
            CHECK.noArgument("trim 1 behind it", () -> boards.trim(1));
            CHECK.is("feed behind it", boards.feed(0x20202020, 0x20202020, 0x20202020, 0x20202020, 0x20202020), 20);
            CHECK.is("teach of what was fed behind it", boards.teach(), 0);
        }
    }

    private static void eachOfTwentyBytes() {
        CHECK.sentence("the four bytes of each number, the highest one first");
        for (int place = 0; place < 20; place++) {
            for (int wrong : new int[] {'?', 127, 128, 255, 0, 1}) {
                int[] n = {0x20202020, 0x20202020, 0x20202020, 0x20202020, 0x20202020};
                int shift = 8 * (3 - place % 4);
                n[place / 4] = n[place / 4] & ~(255 << shift) | wrong << shift;
                ParishBoards boards = new ParishBoards();
                boards.feed(n[0], n[1], n[2], n[3], n[4]);
                CHECK.is("teach with the byte " + wrong, boards.teach(), 1);
                CHECK.is("its place", boards.errorAt(), place);
            }
        }
    }

    private static void trimmed() {
        CHECK.sentence("Shortens the tape to its first bytes.");
        ParishBoards boards = new ParishBoards();
        Check.put(boards, "parish abcdefgh;?");
        CHECK.is("trim", boards.trim(10), 10);
        CHECK.is("the tape", boards.count(12), 10);
        Check.put(boards, ";notice n;");
        CHECK.is("teach", boards.teach(), 0);
        CHECK.is("parishes", boards.count(1), 1);
        CHECK.is("notices", boards.count(2), 1);
    }

    private static void tooLittleToTrim() {
        CHECK.sentence("if n is not 0 to the number of bytes of the tape");
        ParishBoards boards = blank(2);
        boards.trim(39);
        CHECK.noArgument("trim 40 of 39", () -> boards.trim(40));
        CHECK.noArgument("trim -1", () -> boards.trim(-1));
        CHECK.noArgument("trim the least", () -> boards.trim(Integer.MIN_VALUE));
        CHECK.noArgument("trim the most", () -> boards.trim(Integer.MAX_VALUE));
        CHECK.is("the tape", boards.count(12), 39);
        CHECK.is("trim to what there is", boards.trim(39), 39);
        CHECK.is("trim to one less", boards.trim(38), 38);
        CHECK.is("trim to 0", boards.trim(0), 0);
        CHECK.noArgument("trim 1 of 0", () -> boards.trim(1));
    }

    // ---- tokens

    private static boolean isLetter(int sign) {
        return sign >= 'a' && sign <= 'z';
    }

    private static boolean isDigit(int sign) {
        return sign >= '0' && sign <= '9';
    }

    private static boolean isBlank(int sign) {
        return sign == 32 || sign == 10;
    }

    private static void blanksAndLineEnds() {
        CHECK.sentence("Blanks (32) and line ends (10) can stand between tokens, at the beginning and at the end");
        for (int sign = 0; sign <= 255; sign++) {
            char c = (char) sign;
            boolean blank = isBlank(sign);
            error(c + "parish a;", blank ? 0 : 1, blank ? -1 : 0);
            error("parish a;" + c, blank ? 0 : 1, blank ? -1 : 9);
            error("parish" + c + "a;", blank ? 0 : 1, blank ? -1 : isLetter(sign) || isDigit(sign) ? 0 : 6);
        }
        fine(" \n\n  parish \n a\n\n;  notice\nn ;\n \n");
        fine("parish a;notice n;");
        fine("\n");
        fine(" ");
    }

    private static void blanksBetweenWhatWouldBeOne() {
        CHECK.sentence("have to stand between two tokens that would otherwise be read as one");
        error("parisha;", 1, 0);
        error("road r from a tob days 1;", 1, 14);
        error("parish a;parish b;road r from a to b days1;", 1, 37);
        fine(TEST + "day=1or 2=2;");
        error(TEST + "day=1 or2=2;", 1, TEST.length() + 6);
        error(TEST + "1 2=12;", 1, TEST.length() + 2);
        fine(TEST + "12=12and[3=3]and min(1,2)=1and-1<-day;");
    }

    private static void longestToken() {
        CHECK.sentence("The longest possible token is always read.");
        fine(TEST + "1<=1;");
        fine(TEST + "1>=1;");
        error(TEST + "1< =1;", 1, TEST.length() + 3);
        error(TEST + "1> =1;", 1, TEST.length() + 3);
        error(TEST + "1<\n=1;", 1, TEST.length() + 3);
        error(TEST + "1=<1;", 1, TEST.length() + 2);
        error(TEST + "1<==1;", 1, TEST.length() + 3);
        error(TEST + "1<>1;", 1, TEST.length() + 2);
        fine("parish parisha;");
        fine("parish day1;");
        fine("parish daysday;");
    }

    private static void words() {
        CHECK.sentence("A word: a letter a to z, followed by letters a to z and digits");
        for (int sign = 0; sign <= 255; sign++) {
            char c = (char) sign;
            boolean inside = isLetter(sign) || isDigit(sign);
            error("parish " + c + ";", isLetter(sign) ? 0 : 1, isLetter(sign) ? -1 : isBlank(sign) ? 8 : 7);
            error("parish q" + c + "q;", inside ? 0 : 1, inside ? -1 : isBlank(sign) || sign == ';' ? 9 : 8);
        }
    }

    private static void wordsOfTenBytes() {
        CHECK.sentence("at most 10 bytes");
        fine("parish abcdefghij;");
        error("parish abcdefghijk;", 1, 7);
        fine("notice z999999999;");
        error("notice z9999999999;", 1, 7);
        error("parish " + "a".repeat(1992) + ";", 1, 7);
        error("parish a;parish b;road rrrrrrrrrr from a to b days 1;send rrrrrrrrrr;", 0, -1);
        error("parish a;parish b;road rrrrrrrrrrr from a to b days 1;", 1, 23);
        error("parishparis", 1, 0);
        error("parish a;bbbbbbbbbbb", 1, 9);
        // The tenth byte counts: these are two names.
        fine("parish abcdefghij;parish abcdefghik;parish abcdefghi;");
    }

    private static void numbersOfSixDigits() {
        CHECK.sentence("A number: 1 to 6 digits.");
        fine(TEST + "0=0;");
        fine(TEST + "999999=999999;");
        error(TEST + "1000000=1;", 1, TEST.length());
        error(TEST + "0000000=0;", 1, TEST.length());
        error(TEST + "1=0000000;", 1, TEST.length() + 2);
        fine(TEST + "000000=0;");
        error(TEST + "1".repeat(1900) + "=1;", 1, TEST.length());
        ParishBoards boards = Check.taught(BOARDS + "write a n as 999999-990001 when 1=1;"
                + "write a n as 012345-12340 when 1=1;");
        boards.pass(1);
        CHECK.is("the greatest number", boards.sheet(0, 2), 9998);
        CHECK.is("a number with 0 in front", boards.sheet(1, 2), 5);
    }

    private static void symbols() {
        CHECK.sentence("Symbols: ( ) [ ] ; , + - * / < > = <= >=");
        fine(TEST + "[min((1),2)+3-4*5/6<7]and 1>2 or 1=2 or 1<=2 or 1>=2;");
        for (int sign = 0; sign <= 255; sign++) {
            if ("+-*/".indexOf(sign) >= 0) {
                fine(TEST + "1" + (char) sign + "1=1;");
            } else if ("<>=".indexOf(sign) >= 0) {
                fine(TEST + "1" + (char) sign + "1;");
            } else if (!isDigit(sign) && sign != 'a' && sign != 'o') {
                error(TEST + "1" + (char) sign + "1=1;", 1, TEST.length() + (isBlank(sign) ? 2 : 1));
            }
        }
    }

    private static void keywords() {
        CHECK.sentence("The keywords are: parish road from to days notice write note merge send as with by least"
                + " most sum when day value sheets marks waits torn known not and or min max.");
        CHECK.is("keywords", KEYWORDS.size(), 29);
        for (String word : KEYWORDS) {
            error("parish " + word + ";", 1, 7);
            error("notice " + word + ";", 1, 7);
            error("parish a;parish b;road " + word + " from a to b days 1;", 1, 23);
        }
    }

    private static void allOtherWordsAreNames() {
        CHECK.sentence("All other words are names.");
        for (String word : KEYWORDS) {
            fine("parish " + word + "x;");
            fine("parish " + word + "0;");
            fine("parish x" + word + ";");
            String shorter = word.substring(0, word.length() - 1);
            if (!KEYWORDS.contains(shorter)) {
                fine("parish " + shorter + ";");
            }
        }
        fine("parish test;parish list;parish line;parish both;parish name;");
    }

    // ---- the grammar

    private static void linesOfAList() {
        CHECK.sentence("list = { line \";\" }");
        fine("");
        fine("parish a;");
        fine("parish a;notice a;");
        error("parish a", 1, 8);
        error("parish a;notice a", 1, 17);
        error(";", 1, 0);
        error("parish a;;", 1, 9);
        error("parish a,", 1, 8);
    }

    private static void testsThatCanBeLeftOut() {
        CHECK.sentence("\"merge\" name name \"by\" ( \"least\" | \"most\" | \"sum\" ) [ \"when\" test ] | \"send\""
                + " name [ \"when\" test ]");
        fine(BOARDS + "merge a n by least;merge a n by most;merge a n by sum;send r;");
        fine(BOARDS + "merge a n by least when 1=1;merge a n by most when 1=1;merge a n by sum when 1=1;");
        fine(BOARDS + "send r when 1=1;");
        error(BOARDS + "send r when;", 1, BOARDS.length() + 11);
        error(BOARDS + "merge a n by sum when;", 1, BOARDS.length() + 21);
        error(BOARDS + "send r when 1=1 when 1=1;", 1, BOARDS.length() + 16);

        CHECK.sentence("\"write\" name name \"as\" sum \"when\" test | \"note\" name name \"with\" sum \"when\""
                + " test");
        fine(BOARDS + "write a n as 1 when 1=1;note a n with 1 when 1=1;");
        error(BOARDS + "write a n as 1;", 1, BOARDS.length() + 14);
        error(BOARDS + "note a n with 1;", 1, BOARDS.length() + 15);
        error(BOARDS + "write a n when 1=1;", 1, BOARDS.length() + 10);
        error(BOARDS + "note a n when 1=1;", 1, BOARDS.length() + 9);
    }

    private static void whatStandsAnyNumberOfTimes() {
        CHECK.sentence("{ x } x any number of times, also none");
        for (int times = 0; times <= 60; times += times < 3 ? 1 : 57) {
            fine(TEST + "1=1" + " or 1=1".repeat(times) + ";");
            fine(TEST + "1=1" + " and 1=1".repeat(times) + ";");
            fine(TEST + "1" + "+1".repeat(times) + "=1;");
            fine(TEST + "1=1" + "-1".repeat(times) + ";");
            fine(TEST + "1" + "*1".repeat(times) + "=1;");
            fine(TEST + "1=1" + "/1".repeat(times) + ";");
        }
        String lines = "parish a;".repeat(100);
        error(lines, 2, 16);
        error(lines + "parish", 1, lines.length() + 6);
    }

    // ---- depth

    private static void nested(String before, String inner, String behind, int opener) {
        fine(TEST + before.repeat(8) + inner + behind.repeat(8) + ";");
        fine(TEST + before.repeat(7) + inner + behind.repeat(7) + ";");
        error(TEST + before.repeat(9) + inner + behind.repeat(9) + ";", 1,
                TEST.length() + 8 * before.length() + opener);
        error(TEST + before.repeat(9), 1, TEST.length() + 8 * before.length() + opener);
    }

    private static void depthOfEight() {
        CHECK.sentence("It may be at most 8.");
        nested("not ", "1=1", "", 0);
        nested("[", "1=1", "]", 0);
        fine(TEST + "-".repeat(8) + "1=1;");
        error(TEST + "-".repeat(9) + "1=1;", 1, TEST.length() + 8);
        fine(TEST + "1=" + "-".repeat(8) + "1;");
        error(TEST + "1=" + "-".repeat(9) + "1;", 1, TEST.length() + 10);
        fine(TEST + "(".repeat(8) + "1" + ")".repeat(8) + "=1;");
        error(TEST + "(".repeat(9) + "1" + ")".repeat(9) + "=1;", 1, TEST.length() + 8);
        for (String which : new String[] {"min", "max"}) {
            fine(TEST + (which + "(").repeat(8) + "1" + ",2)".repeat(8) + "=1;");
            error(TEST + (which + "(").repeat(9) + "1" + ",2)".repeat(9) + "=1;", 1, TEST.length() + 35);
            fine(TEST + (which + "(2,").repeat(8) + "1" + ")".repeat(8) + "=1;");
            error(TEST + (which + "(2,").repeat(9) + "1" + ")".repeat(9) + "=1;", 1, TEST.length() + 51);
        }
        // One of each kind counts as much as another.
        String mixed = "not[not[-(-min(";
        fine(TEST + mixed + "1,2))=1]];");
        error(TEST + mixed + "(1),2))=1]];", 1, TEST.length() + mixed.length());
        error(TEST + mixed + "1,(2)))=1]];", 1, TEST.length() + mixed.length() + 2);
        error(TEST + mixed + "1,-2))=1]];", 1, TEST.length() + mixed.length() + 2);
        error(TEST + mixed + "1,max(1,1)))=1]];", 1, TEST.length() + mixed.length() + 5);
    }

    private static void depthBehindWhatIsClosed() {
        CHECK.sentence("1 greater between a ( and its ), a [ and its ]");
        fine(TEST + "[" + "(".repeat(7) + "1" + ")".repeat(7) + "=" + "(".repeat(7) + "1" + ")".repeat(7) + "] and "
                + "(".repeat(8) + "1" + ")".repeat(8) + "=1;");
        fine(TEST + "[[[[[[[[1=1]]]]]]]] or [[[[[[[[1=1]]]]]]]];");
        fine(TEST + "(1)+(1)+(1)+(1)+(1)+(1)+(1)+(1)+(1)+(1)=1;");
        fine(TEST + "min((((((((1))))))),(((((((1))))))))+((((((((1))))))))=1;");
        error(TEST + "min((1),((((((((1)))))))))=1;", 1, TEST.length() + 15);
        error(TEST + "[1=1 and ((((((((1))))))))=1];", 1, TEST.length() + 16);
    }

    private static void depthOfWhatATurnTurns() {
        CHECK.sentence("behind a - in front (of a value) for what it turns, and behind a not for what it turns");
        // A turn is over behind its value, and a not behind its single.
        fine(TEST + "-1+-1+-1+-1+-1+-1+-1+-1+-1*-1/-1=1;");
        fine(TEST + "-1+--------1=1;");
        fine(TEST + "not 1=1 and not 1=1 or not not not not not not not not 1=1;");
        fine(TEST + "1-1-1-1-1-1-1-1-1-1-1=1-1-1-1-1-1-1-1-1-1-1;");
        fine(TEST + "1---------1=1;");
        error(TEST + "1----------1=1;", 1, TEST.length() + 10);
        error(TEST + "not--------1=1;", 1, TEST.length() + 10);
        error(TEST + "not 1=--------1;", 1, TEST.length() + 13);
        error(TEST + "-((((((((1))))))))=1;", 1, TEST.length() + 8);
        error(TEST + "not[not[not[not[not 1=1]]]];", 1, TEST.length() + 16);
    }

    private static void depthInAllOrders() {
        CHECK.sentence("Depth. It is 0 at the beginning");
        String eight = "((((((((1))))))))";
        String nine = "(((((((((1)))))))))";
        String[] starts = {"write a n as 1 when ", "note a n with 1 when ", "merge a n by sum when ", "send r when "};
        for (String start : starts) {
            fine(BOARDS + start + eight + "=" + eight + ";" + start + eight + "=1;");
            error(BOARDS + start + nine + "=1;", 1, BOARDS.length() + start.length() + 8);
            error(BOARDS + start + "1=1;" + start + nine + "=1;", 1, BOARDS.length() + 2 * start.length() + 12);
        }
        fine(BOARDS + "write a n as " + eight + " when 1=1;note a n with " + eight + " when 1=1;");
        error(BOARDS + "write a n as " + nine + " when 1=1;", 1, BOARDS.length() + 21);
        error(BOARDS + "note a n with " + nine + " when 1=1;", 1, BOARDS.length() + 22);
    }

    // ---- error 1

    private static void errorAtTheEnd() {
        CHECK.sentence("the end of the tape (at its length)");
        String whole = "road r from a to b days 1;";
        for (String part : new String[] {"road", "road r", "road r from", "road r from a", "road r from a to",
            "road r from a to b", "road r from a to b days", "road r from a to b days 1"}) {
            error(part, 1, part.length());
            error(part + " ", 1, part.length() + 1);
            error(part + "\n \n", 1, part.length() + 3);
        }
        error(whole, 3, 12);
        error(TEST + "(1", 1, TEST.length() + 2);
        error(TEST + "not", 1, TEST.length() + 3);
        String padded = "parish a" + " ".repeat(1992);
        error(padded, 1, 2000);
    }

    private static void errorAtTheToken401() {
        CHECK.sentence("the token that would be the 401st (the end of the tape not counted)");
        // Three tokens each, so that 399 are told; error 2 tells that there is no error 1.
        String lines = "parish a;".repeat(133);
        error(lines, 2, 16);
        error(lines + "notice", 1, lines.length() + 6);
        error(lines + "notice ", 1, lines.length() + 7);
        error(lines + "notice b", 1, lines.length() + 7);
        error(lines + "notice ?", 1, lines.length() + 7);
        error(lines + "notice abcdefghijk", 1, lines.length() + 7);
        error(lines + "notice 1", 1, lines.length() + 7);
        error(lines + "; b", 1, lines.length());
        // A list of 18 + 7 + 375 tokens without any error, and one token more in it, or behind it.
        String sum = "1" + "+1".repeat(184);
        String full = TEST + "1=1;send r when " + sum + "=3;";
        fine(full);
        fine(full + "\n \n");
        error(full.replace("=3;", "=-3;"), 1, full.length());
        error(full + ";", 1, full.length());
        error(full + " \n\u00ff", 1, full.length() + 2);
        error(full + "parish c;", 1, full.length());
    }

    private static void errorAtItsFirstByte() {
        CHECK.sentence("The position is that of its first byte.");
        error("?", 1, 0);
        error("  ?", 1, 2);
        error("abcdefghijkl", 1, 0);
        error("1234567", 1, 0);
        error("parish\n\nwhen;", 1, 8);
        error("parish a ; parish  <=;", 1, 19);
        error("parish a;parish a ;", 2, 16);
        error("send\n\n rr ;", 3, 7);
        error("parish a;parish b;road r from a to b days\n00000;", 5, 42);
    }

    private static void errorOneComesFirst() {
        CHECK.sentence("Only if there is no error 1, keywords, names and numbers are looked at from left to right");
        for (String wrong : new String[] {"parish a;parish a;", "send x;", "send x;".repeat(21), told("parish", 6),
            "parish a;parish b;road r from a to b days 0;"}) {
            error(wrong + "?", 1, wrong.length());
            error(wrong + "parish", 1, wrong.length() + 6);
            error(wrong + "parish;", 1, wrong.length() + 6);
        }
        error("parish a;parish a;send r;", 2, 16);
        error("send r;parish a;parish a;", 3, 5);
        error("parish a;road r from a to a days 0;", 5, 26);
        error("parish a;road r from b to b days 0;", 3, 21);
        error("parish a;parish b;road r from a to b days 0;parish b;", 5, 42);
        error("notice a;notice b;notice c;notice d;notice e;notice f;notice g;notice a;", 4, 61);
        error(TEST + "waits x=value b y;send y;", 3, TEST.length() + 6);
        error(TEST + "waits b=value b y;send y;", 3, TEST.length() + 16);
        error(BOARDS + "write a n as value x n when known x n;", 3, BOARDS.length() + 19);
        error(BOARDS + "write a n as 1 when known x n;", 3, BOARDS.length() + 26);
    }

    private static void smallestNumberAtOneToken() {
        CHECK.sentence("of errors at one token the one with the smallest number");
        // The 6th parish, the 7th notice and the 9th road, each with a name that was told: 2 is less than 4.
        error("parish a;parish b;parish c;parish d;parish e;parish c;", 2, 52);
        error("notice a;notice b;notice c;notice d;notice e;notice f;notice f;", 2, 61);
        error(roads(8) + "road r7 from a to b days 1;", 2, roads(8).length() + 5);
        // Behind to, a name of no parish is that of the one behind from only if that one is none, too.
        error("parish a;road r from x to x days 1;", 3, 21);
        error("parish a;road r from a to x days 1;", 3, 26);
        error("parish a;road r from a to a days 1;", 5, 26);
    }

    // ---- errors 2 to 5

    private static void toldAhead() {
        CHECK.sentence("is that of one of the same kind told ahead.");
        for (String kind : new String[] {"parish", "notice"}) {
            error(kind + " a;" + kind + " a;", 2, 16);
            error(kind + " a;" + kind + " b;" + kind + " a;", 2, 25);
            error(kind + " a;" + kind + " b;" + kind + " b;", 2, 25);
            fine(kind + " a;" + kind + " aa;" + kind + " a0;");
        }
        error(roads(3) + "road r0 from b to a days 2;", 2, roads(3).length() + 5);
        error(roads(3) + "road r2 from b to a days 2;", 2, roads(3).length() + 5);
        fine(roads(3) + "road r3 from b to a days 2;");
        fine("parish a;notice a;parish b;road a from a to b days 1;notice b;road b from b to a days 1;");
    }

    /** Two words are the same name only if all their bytes are. */
    private static void sameByAllBytes() {
        CHECK.sentence("Error 2: the name behind parish, notice or road (at the beginning of a line) is that of one"
                + " of the same kind told ahead.");
        String[] words = new String[4 * 36];
        for (int i = 0; i < words.length; i++) {
            words[i] = "cdfh".substring(i / 36, i / 36 + 1) + "abcdefghijklmnopqrstuvwxyz0123456789".charAt(i % 36);
        }
        ParishBoards boards = new ParishBoards();
        for (int i = 0; i < words.length; i++) {
            for (int j = 0; j <= i; j++) {
                if ((i + j) % 90 == 0) {
                    boards = new ParishBoards();
                }
                int got = Check.teach(boards, "notice " + words[i] + ";notice " + words[j] + ";");
                CHECK.is("teach of " + words[i] + " and " + words[j], got, i == j ? 2 : 0);
            }
        }
    }

    private static void noneOfWhatItHasToBe() {
        CHECK.sentence("Error 3: another name is none of what it has to be, told ahead");
        for (String line : new String[] {"road s from % to p days 1", "road s from p to % days 1",
            "write % n as 1 when 1=1", "note % n with 1 when 1=1", "merge % n by sum", "send r when waits %=1",
            "send r when torn % n", "send r when known % n", "send r when value % n=1", "send r when sheets % n=1",
            "send r when marks % n=1", "write p n as waits % when 1=1", "note p n with value % n when 1=1"}) {
            onlyWith(line, "q", "n", "r", "x", "u");
        }
        for (String line : new String[] {"write p % as 1 when 1=1", "note p % with 1 when 1=1", "merge p % by sum",
            "send r when torn p %", "send r when known p %", "send r when value p %=1", "send r when sheets p %=1",
            "send r when marks p %=1", "write p n as marks q % when 1=1", "note p n with sheets q % when 1=1"}) {
            onlyWith(line, "n", "p", "r", "y", "u");
        }
        onlyWith("send %", "r", "p", "n", "z", "u");
        onlyWith("send % when 1=1", "r", "p", "n", "z", "u");
    }

    /** The wrong names are of another kind, told behind the line, or told nowhere. */
    private static void onlyWith(String line, String right, String... wrong) {
        String ahead = "parish p;parish q;notice n;road r from p to q days 1;";
        String behind = ";parish x;notice y;road z from p to q days 1;";
        fine(ahead + line.replace("%", right) + behind);
        for (String name : wrong) {
            error(ahead + line.replace("%", name) + behind, 3, ahead.length() + line.indexOf('%'));
        }
    }

    private static String roads(int count) {
        StringBuilder text = new StringBuilder("parish a;parish b;");
        for (int i = 0; i < count; i++) {
            text.append("road r").append(i).append(" from a to b days 1;");
        }
        return text.toString();
    }

    private static String told(String kind, int count) {
        StringBuilder text = new StringBuilder();
        for (int i = 0; i < count; i++) {
            text.append(kind).append(" x").append(i).append(";");
        }
        return text.toString();
    }

    private static void atMostSoMany() {
        CHECK.sentence("Error 4: the name of the 6th parish, of the 7th notice or of the 9th road");
        fine(told("parish", 5));
        error(told("parish", 6), 4, 5 * 10 + 7);
        fine(told("notice", 6));
        error(told("notice", 7), 4, 6 * 10 + 7);
        fine(roads(8));
        error(roads(9), 4, roads(8).length() + 5);
        fine(told("parish", 5) + told("notice", 6));
        ParishBoards boards = Check.taught(told("parish", 5) + told("notice", 6) + roads(8).substring(18)
                .replace("from a to b", "from x4 to x0"));
        CHECK.is("parishes", boards.count(1), 5);
        CHECK.is("notices", boards.count(2), 6);
        CHECK.is("roads", boards.count(3), 8);
        CHECK.is("whence the last road leads", boards.road(7, 0), 4);
    }

    private static void ordersOfAllKinds() {
        CHECK.sentence("the write, note, merge or send of the 21st order (of all these together)");
        String[] orders = {"write a n as 1 when 1=1;", "note a n with 1 when 1=1;", "merge a n by sum;", "send r;"};
        for (String order : orders) {
            for (String other : orders) {
                String twenty = order.repeat(7) + other.repeat(13);
                fine(BOARDS + twenty);
                error(BOARDS + twenty + order, 4, BOARDS.length() + twenty.length());
                error(BOARDS + twenty + order.replace(" a ", " x ").replace(" r;", " x;"), 4,
                        BOARDS.length() + twenty.length());
                fine(BOARDS + twenty + "parish c;notice m;");
            }
        }
        ParishBoards boards = Check.taught(BOARDS + "send r;".repeat(20));
        CHECK.is("orders", boards.count(4), 20);
    }

    private static void daysOfARoad() {
        CHECK.sentence("Error 5: days is not 1 to 9");
        String start = "parish a;parish b;road r from a to b days ";
        for (int days = 0; days <= 20; days++) {
            boolean can = days >= 1 && days <= 9;
            error(start + days + ";", can ? 0 : 5, can ? -1 : 42);
            error(start + "0000" + days + ";", can ? 0 : 5, can ? -1 : 42);
        }
        error(start + "000000;", 5, 42);
        error(start + "999999;", 5, 42);
        error(start + "100001;", 5, 42);
        error(start + "65537;", 5, 42);
    }

    private static void roadToItsOwnParish() {
        CHECK.sentence("or the name behind to is that of the parish behind from");
        String start = told("parish", 5);
        for (int from = 0; from < 5; from++) {
            for (int to = 0; to < 5; to++) {
                String text = start + "road r from x" + from + " to x" + to + " days 1;";
                error(text, from == to ? 5 : 0, from == to ? start.length() + 18 : -1);
            }
        }
        // Of the errors at to and at days the one at to is told first.
        error(start + "road r from x1 to x1 days 0;", 5, start.length() + 18);
    }

    private static void numberedFromZero() {
        CHECK.sentence("Parishes, notices, roads and orders (lines with write, note, merge or send) are numbered"
                + " from 0 in the order in which they are told.");
        ParishBoards boards = Check.taught("notice z;parish c;parish a;road y from c to a days 3;notice b;"
                + "write a b as 5 when day=0;parish b;road x from b to c days 4;write c z as value a b+1 when day=0;");
        CHECK.is("whence the first road leads", boards.road(0, 0), 0);
        CHECK.is("whither the first road leads", boards.road(0, 1), 1);
        CHECK.is("days of the first road", boards.road(0, 2), 3);
        CHECK.is("whence the second road leads", boards.road(1, 0), 2);
        CHECK.is("whither the second road leads", boards.road(1, 1), 0);
        CHECK.is("days of the second road", boards.road(1, 2), 4);
        boards.pass(1);
        CHECK.is("parish of the first order", boards.sheet(0, 0), 1);
        CHECK.is("notice of the first order", boards.sheet(0, 1), 1);
        CHECK.is("parish of the second order", boards.sheet(1, 0), 0);
        CHECK.is("notice of the second order", boards.sheet(1, 1), 0);
        CHECK.is("value of the second order", boards.sheet(1, 2), 6);
    }

    // ---- Promises 4 and 5: what teach does

    private static void latestError() {
        CHECK.sentence("Returns the position of the error of the latest teach(); -1 if it had none, or there was"
                + " none.");
        ParishBoards boards = new ParishBoards();
        CHECK.is("without any teach", boards.errorAt(), -1);
        Check.teach(boards, "?");
        CHECK.is("at the first byte", boards.errorAt(), 0);
        Check.teach(boards, "parish a;parish a;");
        CHECK.is("of the latest", boards.errorAt(), 16);
        boards.feed(0, 0, 0, 0, 0);
        boards.trim(0);
        boards.pass(1);
        CHECK.is("it stays till the next", boards.errorAt(), 16);
        Check.teach(boards, "parish a;");
        CHECK.is("behind one without errors", boards.errorAt(), -1);
        Check.teach(boards, "send r;");
        CHECK.is("of the latest again", boards.errorAt(), 5);
        boards.teach();
        CHECK.is("behind an empty one", boards.errorAt(), -1);
    }

    private static void allStaysWithAnError() {
        CHECK.sentence("If it has an error, all stays (but the tape is empty).");
        String list = BOARDS + "write a n as day+3 when day<3;note a n with day when day>0;send r;merge b n by most;";
        String[] wrong = {"?", "parish c;parish c;", "send x;", told("notice", 7),
            "parish a;parish b;road r from a to b days 0;", list + "write", list + "send r when torn a x;",
            list.replace("a", "q"), list + "send r;".repeat(21), "notice n;".repeat(133),
            BOARDS + "write a n as 1 when waits b=-1 and known x n;"};
        int[] errors = {1, 2, 3, 4, 5, 1, 3, 1, 4, 2, 3};
        ParishBoards plain = Check.taught(list);
        ParishBoards boards = Check.taught(list);
        for (int i = 0; i < wrong.length; i++) {
            plain.pass(1);
            boards.pass(1);
            long before = boards.digest();
            CHECK.is("teach of " + wrong[i], Check.teach(boards, wrong[i]), errors[i]);
            CHECK.is("all as it was behind " + wrong[i], boards.digest(), before);
            CHECK.is("as without it", boards.digest(), plain.digest());
        }
        CHECK.is("all that orders did", boards.count(11), plain.count(11));
        CHECK.is("all that was hung", boards.count(9), plain.count(9));
        CHECK.holds("something was hung", boards.count(9) > 0);
    }

    private static void allBeginsAnew() {
        CHECK.sentence("Reads the tape as a list, in the place of all that was told before; all begins anew, the"
                + " day, too.");
        ParishBoards boards = Check.taught(BOARDS + "write a n as 7 when 1=1;note a n with day when 1=1;send r;");
        boards.pass(9);
        boards.setDays(0, 9);
        boards.write(0, 0, 1);
        boards.send(0);
        boards.setDays(0, 1);
        boards.write(0, 0, 1);
        boards.send(0);
        boards.pass(2);
        CHECK.holds("some wait", boards.parish(1, 1) > 0);
        CHECK.is("teach", Check.teach(boards, BOARDS), 0);
        ParishBoards fresh = Check.taught(BOARDS);
        CHECK.is("as a new object", boards.digest(), fresh.digest());
        for (int what = 0; what <= 12; what++) {
            CHECK.is("count " + what, boards.count(what), fresh.count(what));
        }
        boards.pass(9);
        fresh.pass(9);
        CHECK.is("nothing that was under way comes", boards.digest(), fresh.digest());
        CHECK.is("no order told before", boards.count(11), 0);
        boards.write(0, 0, 1);
        CHECK.is("the first sheet's stamp", boards.stamp(0, 0), 1);
        CHECK.is("no mark of those before", boards.sheet(0, 3), 0);
        CHECK.is("it can be sent", boards.send(0), 1);
        CHECK.is("with the days of the list", boards.road(0, 2), 2);
        // What waited before the list was told waits no longer, and a sheet with its number waits as any other.
        Check.teach(boards, BOARDS);
        boards.setDays(0, 9);
        boards.write(0, 0, 1);
        boards.send(0);
        boards.setDays(0, 1);
        for (int s = 1; s < 30; s++) {
            boards.write(0, 0, s);
        }
        boards.send(0);
        boards.pass(2);
        CHECK.is("all but the first wait", boards.parish(1, 1), 29);
        CHECK.is("teach of nothing", boards.teach(), 0);
        CHECK.is("as at first", boards.digest(), new ParishBoards().digest());
    }
}
