import java.io.File;
import java.io.IOException;
import java.lang.reflect.Method;
import java.lang.reflect.Modifier;
import java.nio.charset.StandardCharsets;
import java.nio.file.Files;
import java.nio.file.Path;
import java.util.ArrayList;
import java.util.List;
import java.util.Set;
import java.util.TreeSet;
import java.util.regex.Matcher;
import java.util.regex.Pattern;

/**
 * What README.md says is so: the calls, classes and tests that it names are those that there are; and its yard becomes a
 * test, ReadmeRun, in which each call must answer what stands behind it. Arguments: the project's place, and where that
 * test is to be written.
 */
final class ReadmeTest {
    private static final Pattern CALL = Pattern.compile("(.+);\\s+// (-?\\d+|true|false)(:.*)?");

    private ReadmeTest() {
    }

    public static void main(String[] args) throws IOException {
        String page = Files.readString(Path.of(args[0], "README.md"), StandardCharsets.UTF_8);
        Due.sentence = "README.md: ";
        calls(page);
        classes(page);
        tests(page, args[0]);
        String run = runOf(blocks(page));
        Files.writeString(Path.of(args[1], "ReadmeRun.java"), run, StandardCharsets.UTF_8);
        Due.finish("ReadmeTest");
    }

    private static Set<String> named(String text, String pattern) {
        Set<String> found = new TreeSet<>();
        Matcher m = Pattern.compile(pattern).matcher(text);
        while (m.find()) {
            found.add(m.group(1));
        }
        return found;
    }

    private static String table(String page, String head) {
        int from = page.indexOf(head);
        Due.is("a table of " + head, from >= 0, true);
        return from < 0 ? "" : page.substring(from, page.indexOf("\n\n", from));
    }

    private static void same(String what, Set<String> got, Set<String> due) {
        Due.is(what + " " + got + ", there are " + due, got.equals(due), true);
    }

    private static void calls(String page) {
        Set<String> there = new TreeSet<>();
        for (Method m : ToolUnion.class.getDeclaredMethods()) {
            if (Modifier.isPublic(m.getModifiers())) {
                there.add(m.getName());
            }
        }
        same("calls", named(table(page, "| for | there is |"), "`(\\w+)`"), there);
    }

    private static void classes(String page) {
        Set<String> there = new TreeSet<>();
        for (Class<?> c : ToolUnion.class.getDeclaredClasses()) {
            there.add(c.getSimpleName());
        }
        same("classes", named(table(page, "| class inside | what it has |"), "`([A-Z]\\w+)`(?=[^|]*\\|[^|]*\\|)"), there);
    }

    private static void tests(String page, String place) {
        Set<String> there = new TreeSet<>();
        File[] files = new File(place, "tests").listFiles();
        for (File file : files == null ? new File[0] : files) {
            there.add(file.getName());
        }
        same("tests", named(page, "`tests/(\\w+\\.java)`"), there);
    }

    private static List<String> blocks(String page) {
        List<String> found = new ArrayList<>();
        Matcher m = Pattern.compile("(?s)```java\n(.*?)```").matcher(page);
        while (m.find()) {
            found.add(m.group(1));
        }
        Due.is("blocks of code: its function, its yard", found.size(), 2);
        return found;
    }

    private static String runOf(List<String> blocks) {
        StringBuilder s = new StringBuilder("public final class ReadmeRun {\n");
        if (blocks.size() == 2) {
            s.append(blocks.get(0)).append("public static void main(String[] args) {\nDue.sentence = \"README.md: \";\n");
            for (String line : blocks.get(1).split("\n")) {
                s.append(asked(line)).append('\n');
            }
            s.append("Due.finish(\"ReadmeRun\");\n}\n");
        }
        return s.append("}\n").toString();
    }

    /** A line of the yard; each but the first, and those that are empty, must have its answer. */
    private static String asked(String line) {
        Matcher m = CALL.matcher(line);
        if (!m.matches()) {
            Due.is("a line with its answer: " + line, line.isEmpty() || line.equals("ToolUnion x = new ToolUnion();"), true);
            return line;
        }
        String call = m.group(1);
        return "Due.is(\"" + call.replace("\"", "'") + "\", " + call + ", " + m.group(2) + ");";
    }
}
