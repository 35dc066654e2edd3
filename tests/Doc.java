import java.io.IOException;
import java.nio.charset.StandardCharsets;
import java.nio.file.Files;
import java.nio.file.Path;
import java.util.LinkedHashMap;
import java.util.Map;

/**
 * The document by its sections ("Terms 0" to "Terms 4", "Promise 1" to "Promise 34"), and which of their words have a
 * test: so that no sentence is forgotten, and none is quoted that the document doesn't have.
 */
final class Doc {
    private static final int PARTS = 4;
    private static final int PROMISES = 34;
    private static final Map<String, String> SECTIONS = new LinkedHashMap<>();
    private static final Map<String, boolean[]> TESTED = new LinkedHashMap<>();

    private Doc() {
    }

    static void read(String path) throws IOException {
        String all = Files.readString(Path.of(path), StandardCharsets.UTF_8);
        all = all.replace("```text", " ").replace("```", " ").replaceAll("\\s+", " ");
        for (int i = 0; i <= PARTS; i++) {
            String end = i < PARTS ? "==== " + (i + 1) + ". " : "## Promise 1:";
            put("Terms " + i, between(all, i == 0 ? "## Terms" : "==== " + i + ". ", end));
        }
        for (int i = 1; i <= PROMISES; i++) {
            String section = between(all, "## Promise " + i + ": ", " ## ");
            put("Promise " + i, section.substring(section.indexOf("`: ") + 3));
        }
    }

    private static String between(String all, String start, String end) {
        int from = all.indexOf(start) + start.length();
        return all.substring(from, all.indexOf(end, from)).trim();
    }

    private static void put(String name, String text) {
        SECTIONS.put(name, text);
        TESTED.put(name, new boolean[text.length()]);
    }

    /** The answers that follow are for these words of a section. */
    static void of(String section, String words) {
        Due.sentence = section + ", \"" + words + "\": ";
        String text = SECTIONS.getOrDefault(section, "");
        int at = text.indexOf(words);
        Due.is("these words stand in the document", at >= 0, true);
        for (; at >= 0; at = text.indexOf(words, at + 1)) {
            for (int i = at; i < at + words.length(); i++) {
                TESTED.get(section)[i] = true;
            }
        }
    }

    /** Every word of the sections whose name begins so must have been quoted. */
    static void allOf(String... names) {
        Due.sentence = "";
        for (String section : SECTIONS.keySet()) {
            for (String name : names) {
                if (section.equals(name) || name.endsWith("*") && section.startsWith(name.substring(0, name.length() - 1))) {
                    Due.is(section + " has words without a test: " + untested(section), untested(section).isEmpty(), true);
                }
            }
        }
    }

    private static String untested(String section) {
        String text = SECTIONS.get(section);
        StringBuilder s = new StringBuilder();
        for (int i = 0; i < text.length(); i++) {
            if (Character.isLetterOrDigit(text.charAt(i)) && !TESTED.get(section)[i]) {
                s.append(text.charAt(i));
            } else if (s.length() > 0 && s.charAt(s.length() - 1) != ' ') {
                s.append(' ');
            }
        }
        return s.toString().trim();
    }
}
