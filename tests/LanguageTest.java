import java.lang.reflect.Field;
import java.lang.reflect.Modifier;
import java.nio.file.Files;
import java.nio.file.Path;
import java.util.ArrayList;
import java.util.HashSet;
import java.util.List;
import java.util.Set;
import java.util.regex.Matcher;
import java.util.regex.Pattern;

/** The rules of LANGUAGE.md that can be seen by reading the program's lines, or its classes. Its argument: the program's file. */
final class LanguageTest {
    private static final Pattern METHOD =
        Pattern.compile("^( {4}| {8})(public |private )?(static )?(\\w+(?:\\[\\])?) (\\w+)\\(([^)]*)\\) \\{$");

    private LanguageTest() {
    }

    public static void main(String[] args) throws Exception {
        List<String> lines = Files.readAllLines(Path.of(args[0]));
        String code = bare(String.join("\n", lines));
        words(code);
        methods(lines);
        library(code);
        classes();
        Due.finish("LanguageTest");
    }

    /** Without what stands in comments and texts. */
    private static String bare(String source) {
        return source.replaceAll("(?s)/\\*.*?\\*/", "").replaceAll("//[^\n]*", "")
            .replaceAll("\"(\\\\.|[^\"\\\\])*\"", "\"\"");
    }

    private static void none(String code, String what, String pattern) {
        Matcher m = Pattern.compile(pattern).matcher(code);
        Due.is("LANGUAGE.md: " + what, m.find(), false);
    }

    private static void words(String code) {
        none(code, "rule 6", "\\b(throws?|try|catch|finally|synchronized|assert)\\b");
        none(code, "rule 4: no imports", "\\bimport\\b|\\bjava\\.");
        none(code, "rule 2: no lambda, no method reference", "->|::");
        none(code, "rule 2: no object with a body of its own", "new \\w+\\([^)]*\\) \\{");
        none(code, "rule 5: no static that isn't final", "static (?!final\\b)(?!\\w+(\\[\\])? \\w+\\()");
        none(code, "rule 5: no static block", "static \\{");
        none(code, "rule 10: no texts joined by +", "\"\" *\\+|\\+ *\"\"");
        none(code, "rule 1: no protected", "\\bprotected\\b");
        none(code, "rule 13", "System\\.(?!arraycopy)|Thread|Random");
        none(code, "rule 4: none that ends in Exact", "Exact\\(");
        int classes = code.split("\\bclass \\w+", -1).length - 1;
        Due.is("LANGUAGE.md: rule 11: classes (" + classes + ")", classes <= 13, true);
    }

    private static void library(String code) {
        Matcher m = Pattern.compile("\\b(Math|Integer|Long|System|Arrays|String|List)\\.(\\w+)").matcher(code);
        while (m.find()) {
            boolean fine = m.group(1).matches("Math|Integer|System")
                && m.group(2).matches("max|min|bitCount|lowestOneBit|numberOfTrailingZeros|arraycopy");
            Due.is("LANGUAGE.md: rule 4: " + m.group(), fine, true);
        }
    }

    private static void classes() {
        fields(ToolUnion.class);
        for (Class<?> c : ToolUnion.class.getDeclaredClasses()) {
            Due.is("LANGUAGE.md: rule 2: static " + c.getName(), Modifier.isStatic(c.getModifiers()), true);
            Due.is("LANGUAGE.md: rule 1: not public " + c.getName(), Modifier.isPublic(c.getModifiers()), false);
            Due.is("LANGUAGE.md: rule 2: none inside " + c.getName(), c.getDeclaredClasses().length, 0);
            fields(c);
        }
    }

    private static void fields(Class<?> c) {
        int own = 0;
        for (Field f : c.getDeclaredFields()) {
            if (Modifier.isStatic(f.getModifiers())) {
                Due.is("LANGUAGE.md: rule 5: " + c.getName() + "." + f.getName(), Modifier.isFinal(f.getModifiers()), true);
            } else {
                own++;
            }
            Class<?> type = f.getType().isArray() ? f.getType().getComponentType() : f.getType();
            boolean fine = type.isPrimitive() || type == String.class || type.getName().startsWith("ToolUnion$");
            Due.is("LANGUAGE.md: rule 3: " + c.getName() + "." + f.getName(), fine, true);
        }
        Due.is("LANGUAGE.md: rule 11: fields of " + c.getName() + " (" + own + ")", own <= 20, true);
    }

    private static void methods(List<String> lines) {
        Set<String> faces = new HashSet<>();
        List<String> hidden = new ArrayList<>();
        for (int i = 0; i < lines.size(); i++) {
            Matcher m = METHOD.matcher(lines.get(i));
            if (!m.matches()) {
                continue;
            }
            String name = m.group(5);
            if ("public ".equals(m.group(2))) {
                faces.add(name);
            } else {
                hidden.add(name);
            }
            int end = i;
            while (!lines.get(end).equals(m.group(1) + "}")) {
                end++;
            }
            Due.is("LANGUAGE.md: rule 11: lines of " + name, end - i + 1 <= 60, true);
            Due.is("LANGUAGE.md: rule 11: parameters of " + name, m.group(6).split(",").length <= 7, true);
        }
        Due.is("public methods", faces.size(), 33);
        for (String name : hidden) {
            Due.is("LANGUAGE.md: rule 1: " + name + " has a public one's name", faces.contains(name), false);
        }
    }
}
