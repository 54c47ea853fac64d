import java.io.IOException;
import java.lang.reflect.InvocationTargetException;
import java.lang.reflect.Method;
import java.lang.reflect.Modifier;
import java.nio.charset.StandardCharsets;
import java.nio.file.DirectoryStream;
import java.nio.file.Files;
import java.nio.file.Path;
import java.util.ArrayList;
import java.util.List;
import java.util.regex.Matcher;
import java.util.regex.Pattern;

/** README.md: its list is taught, its example answers what it says, and its table has each call of the face. */
public final class ReadmeTest {
    private static final Check CHECK = new Check();
    private static final Path README = Path.of("README.md");
    private static final Path SOURCE = Path.of("src/main/java/ParishBoards.java");
    private static final Path TESTS = Path.of("src/test/java");
    private static final Pattern SHOWN_CALL =
            Pattern.compile("boards\\.(\\w+)\\(([^)]*)\\); *// (throws )?([\\w.-]+)(:.*)?");
    private static final Pattern FACE_CALL = Pattern.compile("public \\w+ (\\w+)\\(([^)]*)\\)");

    private final String page = read(README);
    private final ParishBoards boards = new ParishBoards();

    public static void main(String[] args) throws IOException {
        ReadmeTest test = new ReadmeTest();
        test.list();
        test.helpers();
        test.example();
        test.calls();
        test.tests();
        CHECK.end("ReadmeTest");
    }

    private void list() {
        CHECK.is("the list", Check.teach(new ParishBoards(), shownList()), 0);
        ParishBoards all = Check.taught(shownList());
        CHECK.is("parishes of the list", all.count(1), 2);
        CHECK.is("notices of the list", all.count(2), 1);
        CHECK.is("roads of the list", all.count(3), 1);
        CHECK.is("orders of the list", all.count(4), 4);
    }

    private String shownList() {
        return block("text", "parish ").strip() + "\n";
    }

    /** What puts the list on the tape is the code of the page, as it stands here. */
    private void helpers() {
        String own = read(TESTS.resolve("ReadmeTest.java"));
        for (String line : block("java", "static int put(").split("\n")) {
            CHECK.holds("the test has this line of the page: " + line, own.contains("\n    " + line + "\n")
                    || line.isEmpty());
        }
        for (int pieces = 1; pieces <= 41; pieces++) {
            ParishBoards filled = new ParishBoards();
            int bytes = 0;
            for (int piece = 0; piece < pieces; piece++) {
                bytes += piece;
                CHECK.is("bytes behind piece " + piece, put(filled, "abc;".repeat(12).substring(0, piece)), bytes);
            }
            CHECK.is("bytes of the tape", filled.count(12), bytes);
        }
    }

    /** Puts a list on the tape, behind what stands there. */
    static int put(ParishBoards boards, String list) {
        int length = boards.count(12) + list.length();
        for (int at = 0; at < list.length(); at += 20) {
            boards.feed(four(list, at), four(list, at + 4), four(list, at + 8),
                    four(list, at + 12), four(list, at + 16));
        }
        return boards.trim(length);
    }

    /** Four bytes of it as one number, with blanks behind its end. */
    static int four(String list, int start) {
        int all = 0;
        for (int at = start; at < start + 4; at++) {
            all = all << 8 | (at < list.length() ? list.charAt(at) : ' ');
        }
        return all;
    }

    private void example() {
        int calls = 0;
        for (String line : block("java", "new ParishBoards();").split("\n")) {
            Matcher put = Pattern.compile("put\\(boards, list\\); *// (\\d+): .*").matcher(line);
            Matcher call = SHOWN_CALL.matcher(line);
            if (put.matches()) {
                CHECK.is(line, put(boards, shownList()), Integer.parseInt(put.group(1)));
            } else if (call.matches()) {
                same(line, outcome(call.group(1), call.group(2)), call.group(4));
                calls++;
            } else {
                same("a line with no answer", line, "ParishBoards boards = new ParishBoards();");
            }
        }
        CHECK.holds("calls in the example: " + calls, calls > 9);
    }

    private String outcome(String name, String numbers) {
        String[] texts = numbers.isEmpty() ? new String[0] : numbers.split(", ");
        Object[] arguments = new Object[texts.length];
        for (int i = 0; i < texts.length; i++) {
            arguments[i] = Integer.decode(texts[i]);
        }
        try {
            for (Method method : ParishBoards.class.getMethods()) {
                if (method.getName().equals(name) && method.getParameterCount() == arguments.length) {
                    return String.valueOf(method.invoke(boards, arguments));
                }
            }
            return "no such call";
        } catch (InvocationTargetException thrown) {
            return thrown.getCause().getClass().getSimpleName();
        } catch (IllegalAccessException cannot) {
            return "no public call";
        }
    }

    /** The rows of the table are the calls in the face's order, each with its parameters and what it throws. */
    private void calls() {
        List<String> rows = new ArrayList<>();
        for (String line : page.split("\n")) {
            if (line.matches("\\| `\\w+\\(.*")) {
                rows.add(line);
            }
        }
        int row = 0;
        Matcher call = FACE_CALL.matcher(read(SOURCE));
        while (call.find()) {
            String due = "`" + call.group(1) + "(" + call.group(2).replaceAll("\\w+ (\\w+)", "$1") + ")`";
            String[] cells = row < rows.size() ? rows.get(row).split("\\|") : new String[] {"", "", "", ""};
            same("a row's call", cells[1].strip(), due);
            CHECK.holds("the answer of " + due, cells[2].strip().length() > 2);
            same("what is thrown by " + due, namesOfThrown(cells[3]), thrownBy(call.group(1)));
            row++;
        }
        CHECK.is("rows of calls", rows.size(), row);
        CHECK.is("calls of the face", row, 25);
    }

    private static String namesOfThrown(String cell) {
        StringBuilder names = new StringBuilder();
        Matcher name = Pattern.compile("`(\\w+Exception)`: ").matcher(cell);
        while (name.find()) {
            names.append(name.group(1)).append(' ');
        }
        return names.toString();
    }

    private static String thrownBy(String name) {
        StringBuilder names = new StringBuilder();
        for (Method method : ParishBoards.class.getDeclaredMethods()) {
            if (method.getName().equals(name) && Modifier.isPublic(method.getModifiers())) {
                for (Class<?> type : method.getExceptionTypes()) {
                    names.append(type.getSimpleName()).append(' ');
                }
            }
        }
        return names.toString();
    }

    private void tests() throws IOException {
        CHECK.holds("how often an object is called", page.contains("at most 512 calls"));
        CHECK.holds("how the tests are run", page.contains("\n    .ci/run\n"));
        try (DirectoryStream<Path> all = Files.newDirectoryStream(TESTS, "*Test.java")) {
            for (Path test : all) {
                String name = test.getFileName().toString().replace(".java", "");
                CHECK.holds(name + " is told", page.contains("`" + name + "`") || page.contains("`" + name + " ["));
            }
        }
    }

    /** The text between the fences of the block of this kind that has these words. */
    private String block(String kind, String words) {
        Matcher block = Pattern.compile("(?s)\n```" + kind + "\n(.*?)\n```\n").matcher(page);
        while (block.find()) {
            if (block.group(1).contains(words)) {
                return block.group(1);
            }
        }
        CHECK.fail("there is no block of " + kind + " with " + words);
        return "";
    }

    private static void same(String what, String got, String due) {
        CHECK.holds(what + ": " + got + ", due is " + due, got.equals(due));
    }

    private static String read(Path path) {
        try {
            return Files.readString(path, StandardCharsets.UTF_8);
        } catch (IOException cannot) {
            throw new IllegalStateException("can't read " + path, cannot);
        }
    }
}
