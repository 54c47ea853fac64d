import java.io.IOException;
import java.nio.charset.StandardCharsets;
import java.nio.file.Files;
import java.nio.file.Path;

/** Counts what was checked, and tells what was not as it is due. */
final class Check {
    interface Call {
        long answer();
    }

    private static final Path DOCUMENT = Path.of("../shared/DOC.md");

    private int checked = 0;
    private int wrong = 0;
    private int checkedAhead = 0;
    private String sentence = "";
    private String document = "";

    /** Begins the test of one sentence of the document: its words stand there, and what fails is told with them. */
    void sentence(String words) {
        endSentence();
        sentence = words;
        checkedAhead = checked;
        if (document.isEmpty() && Files.isReadable(DOCUMENT)) {
            document = oneLine(read(DOCUMENT));
        }
        if (!document.isEmpty() && !document.contains(oneLine(words))) {
            fail("the document doesn't say this");
        }
    }

    private void endSentence() {
        if (!sentence.isEmpty() && checked == checkedAhead) {
            fail("nothing is checked of it");
        }
        sentence = "";
    }

    private static String oneLine(String text) {
        return text.replaceAll("\\s+", " ");
    }

    private static String read(Path path) {
        try {
            return Files.readString(path, StandardCharsets.UTF_8);
        } catch (IOException cannot) {
            throw new IllegalStateException("can't read " + path, cannot);
        }
    }

    void is(String what, long got, long due) {
        checked++;
        if (got != due) {
            fail(what + " answered " + got + ", due is " + due);
        }
    }

    void is(String what, boolean got, boolean due) {
        is(what, got ? 1 : 0, due ? 1 : 0);
    }

    void holds(String what, boolean is) {
        checked++;
        if (!is) {
            fail(what + " does not hold");
        }
    }

    /** The call must throw just this exception, not one of a class below it. */
    void throwsJust(Class<? extends RuntimeException> due, String what, Call call) {
        checked++;
        try {
            fail(what + " answered " + call.answer() + ", due is " + due.getName());
        } catch (RuntimeException thrown) {
            if (thrown.getClass() != due) {
                fail(what + " threw " + thrown.getClass().getName() + ", due is " + due.getName());
            }
        }
    }

    void noIndex(String what, Call call) {
        throwsJust(IndexOutOfBoundsException.class, what, call);
    }

    void noArgument(String what, Call call) {
        throwsJust(IllegalArgumentException.class, what, call);
    }

    void noState(String what, Call call) {
        throwsJust(IllegalStateException.class, what, call);
    }

    void fail(String message) {
        wrong++;
        if (wrong <= 20) {
            System.out.println(sentence.isEmpty() ? message : "\"" + sentence + "\": " + message);
        }
    }

    /** Says how it went and ends the program, with 1 if anything was wrong. */
    void end(String name) {
        endSentence();
        System.out.println(name + ": " + checked + " checked, " + wrong + " wrong");
        System.exit(wrong == 0 && checked > 0 ? 0 : 1);
    }

    /** Puts the text behind what is on the tape, which must have room for its last twenty bytes. */
    static void put(ParishBoards boards, String text) {
        put(boards, text.getBytes(StandardCharsets.ISO_8859_1));
    }

    static void put(ParishBoards boards, byte[] bytes) {
        int before = boards.count(12);
        for (int at = 0; at < bytes.length; at += 20) {
            boards.feed(four(bytes, at), four(bytes, at + 4), four(bytes, at + 8),
                    four(bytes, at + 12), four(bytes, at + 16));
        }
        boards.trim(before + bytes.length);
    }

    static int teach(ParishBoards boards, String text) {
        put(boards, text);
        return boards.teach();
    }

    static ParishBoards taught(String text) {
        ParishBoards boards = new ParishBoards();
        int error = teach(boards, text);
        if (error != 0) {
            throw new IllegalArgumentException("error " + error + " at " + boards.errorAt() + " of " + text);
        }
        return boards;
    }

    private static int four(byte[] bytes, int at) {
        int all = 0;
        for (int i = at; i < at + 4; i++) {
            all = all << 8 | (i < bytes.length ? bytes[i] & 255 : ' ');
        }
        return all;
    }
}
