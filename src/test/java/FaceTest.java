import java.io.IOException;
import java.lang.management.ManagementFactory;
import java.lang.reflect.Field;
import java.lang.reflect.Method;
import java.lang.reflect.Modifier;
import java.nio.charset.StandardCharsets;
import java.nio.file.Files;
import java.nio.file.Path;
import java.util.Arrays;
import java.util.TreeSet;
import java.util.regex.Pattern;

/** The document's face, what the language's rules leave, and the room that calls take. */
public final class FaceTest {
    private static final Check CHECK = new Check();
    private static final Path SOURCE = Path.of("src/main/java/ParishBoards.java");
    private static final String[] FACE = {"int feed(int,int,int,int,int)", "int trim(int)", "int teach()",
        "int errorAt()", "int count(int)", "int parish(int,int)", "int knows(int,int)", "int sheet(int,int)",
        "int stamp(int,int)", "int shown(int,int,int)", "int compare(int,int)", "int road(int,int)",
        "int write(int,int,int)", "int note(int,int,int)", "int merge(int,int,int)", "int send(int)",
        "int setDays(int,int)", "int pass(int)", "int foresee(int,int)", "int until(int,int)", "boolean alike()",
        "int missed()", "int advise(int)", "double mean()", "long digest()"};

    public static void main(String[] args) throws IOException {
        face();
        source();
        room();
        CHECK.end("FaceTest");
    }

    private static void face() {
        TreeSet<String> got = new TreeSet<>();
        TreeSet<String> names = new TreeSet<>();
        for (Method method : ParishBoards.class.getDeclaredMethods()) {
            if (Modifier.isPublic(method.getModifiers())) {
                got.add(signature(method));
                names.add(method.getName());
            }
        }
        CHECK.holds("the face: " + got, got.equals(new TreeSet<>(Arrays.asList(FACE))));
        int modifiers = ParishBoards.class.getModifiers();
        CHECK.holds("public and final", Modifier.isPublic(modifiers) && Modifier.isFinal(modifiers));
        CHECK.is("constructors", ParishBoards.class.getConstructors().length, 1);
        members(ParishBoards.class, names);
        for (Class<?> inside : ParishBoards.class.getDeclaredClasses()) {
            CHECK.holds(inside + " is static", Modifier.isStatic(inside.getModifiers()));
            CHECK.holds(inside + " is not public", !Modifier.isPublic(inside.getModifiers()));
            for (Method method : inside.getDeclaredMethods()) {
                CHECK.holds(method + " bears no name of the face", !names.contains(method.getName()));
            }
        }
        CHECK.holds("some twelve classes", ParishBoards.class.getDeclaredClasses().length <= 12);
    }

    private static void members(Class<?> outer, TreeSet<String> names) {
        for (Method method : outer.getDeclaredMethods()) {
            boolean isPublic = Modifier.isPublic(method.getModifiers());
            CHECK.holds(method + " is public or private", isPublic || Modifier.isPrivate(method.getModifiers()));
            CHECK.holds(method + " bears no name of the face", isPublic || !names.contains(method.getName()));
        }
        for (Field field : outer.getDeclaredFields()) {
            CHECK.holds(field + " is private", Modifier.isPrivate(field.getModifiers()));
            CHECK.holds(field + " is final if it is static",
                    !Modifier.isStatic(field.getModifiers()) || Modifier.isFinal(field.getModifiers()));
        }
    }

    private static String signature(Method method) {
        StringBuilder text = new StringBuilder();
        for (Class<?> type : method.getParameterTypes()) {
            text.append(text.length() == 0 ? "" : ",").append(type.getName());
        }
        return method.getReturnType().getName() + " " + method.getName() + "(" + text + ")";
    }

    private static void source() throws IOException {
        String text = Files.readString(SOURCE, StandardCharsets.US_ASCII);
        String code = text.replaceAll("\"[^\"]*\"", "\"\"").replaceAll("//[^\n]*", "").replaceAll("(?s)/\\*.*?\\*/", "");
        for (String word : new String[] {"import", "package", "try", "catch", "finally", "synchronized", "assert",
            "System.out", "System.nanoTime", "System.currentTimeMillis", "Random", "Thread", "lambda", "var",
            "protected", "ordinal", "equals", "hashCode", "toString"}) {
            CHECK.holds("no " + word, !Pattern.compile("\\b" + Pattern.quote(word) + "\\b").matcher(code).find());
        }
        CHECK.holds("no arrow", !code.contains("->"));
        CHECK.holds("no method reference", !code.contains("::"));
        for (String line : text.split("\n")) {
            CHECK.holds("a line of at most 120: " + line, line.length() <= 120);
        }
    }

    /** Calls make nothing: all rows are made in the constructor, and used again. */
    private static void room() {
        com.sun.management.ThreadMXBean threads =
                (com.sun.management.ThreadMXBean) ManagementFactory.getThreadMXBean();
        for (int turn = 0; turn < 2; turn++) {
            ParishBoards boards = Check.taught("parish a;parish b;notice n;road ab from a to b days 1;"
                    + "write a n as min(day,3)-(-day) when not day/3*3=day or [torn b n and waits b>0];send ab;");
            long before = threads.getCurrentThreadAllocatedBytes();
            boards.pass(60);
            boards.foresee(60, 5);
            boards.until(1, 0);
            boards.advise(30);
            boards.digest();
            boards.feed(0x70617269, 0x73682061, 0x3b706172, 0x69736820, 0x623b2020);
            boards.teach();
            boards.digest();
            long made = threads.getCurrentThreadAllocatedBytes() - before;
            if (turn == 1) {
                CHECK.is("bytes that calls make", made, 0);
            }
        }
    }
}
