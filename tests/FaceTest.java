import java.io.IOException;
import java.lang.reflect.Constructor;
import java.lang.reflect.Field;
import java.lang.reflect.Method;
import java.lang.reflect.Modifier;
import java.nio.charset.StandardCharsets;
import java.nio.file.Files;
import java.nio.file.Path;
import java.util.Set;
import java.util.TreeSet;

/**
 * What stands in the document ahead of its Terms: the public face, just as it is told there, and the 512 calls for which
 * an object is used. Its argument: the document's file.
 */
final class FaceTest {
    private static final Class<ToolUnion> FACE = ToolUnion.class;
    private static final int CALLS = 512;

    private FaceTest() {
    }

    public static void main(String[] args) throws Exception {
        String all = Files.readString(Path.of(args[0]), StandardCharsets.UTF_8);
        String face = between(all, "```java\n", "```");
        theClass(face);
        theMembers(face);
        Due.sentence = "What it is, \"An object is used for at most 512 calls after it has been made\": ";
        Due.is("these words stand in the document", all.contains("An object is used for at most 512 calls after it has been made"), true);
        dearestCalls();
        allHours();
        Due.finish("FaceTest");
    }

    private static String between(String all, String start, String end) {
        int from = all.indexOf(start) + start.length();
        return all.substring(from, all.indexOf(end, from));
    }

    private static void theClass(String face) throws IOException {
        Due.sentence = "The public face: ";
        Due.is("public final class ToolUnion", face.startsWith("public final class ToolUnion {"), true);
        Due.is("it is public", Modifier.isPublic(FACE.getModifiers()), true);
        Due.is("it is final", Modifier.isFinal(FACE.getModifiers()), true);
        Due.is("it has no package", FACE.getPackageName().isEmpty(), true);
        Due.is("it is of no other class", FACE.getSuperclass() == Object.class && FACE.getInterfaces().length == 0, true);
    }

    /** Each line of the document's face, and each member that isn't private: the one just if the other. */
    private static void theMembers(String face) throws IllegalAccessException {
        Set<String> due = new TreeSet<>();
        for (String line : face.split("\n")) {
            if (line.startsWith("    public ")) {
                due.add(line.trim().replaceAll("(int|boolean) \\w+(?=[,)])", "$1"));
            }
        }
        Set<String> got = new TreeSet<>();
        for (Field f : FACE.getDeclaredFields()) {
            if (!Modifier.isPrivate(f.getModifiers()) && !f.isSynthetic()) {
                got.add(Modifier.toString(f.getModifiers()) + " " + f.getType() + " " + f.getName() + " = " + f.get(null) + ";");
            }
        }
        for (Constructor<?> c : FACE.getDeclaredConstructors()) {
            if (!Modifier.isPrivate(c.getModifiers()) && !c.isSynthetic()) {
                got.add(told(c.getModifiers(), "", "ToolUnion", c.getParameterTypes()));
            }
        }
        for (Method m : FACE.getDeclaredMethods()) {
            if (!Modifier.isPrivate(m.getModifiers()) && !m.isSynthetic()) {
                got.add(told(m.getModifiers(), m.getReturnType() + " ", m.getName(), m.getParameterTypes()));
            }
        }
        Due.is("lines of the face", due.size(), 35);
        for (String line : due) {
            Due.is("the class has " + line, got.contains(line), true);
        }
        for (String line : got) {
            Due.is("the document has " + line, due.contains(line), true);
        }
    }

    private static String told(int modifiers, String type, String name, Class<?>[] parameters) {
        StringBuilder s = new StringBuilder(Modifier.toString(modifiers) + " " + type + name + "(");
        for (int i = 0; i < parameters.length; i++) {
            s.append(i == 0 ? "" : ", ").append(parameters[i].getName());
        }
        return s.append(");").toString();
    }

    /** A full yard, and what takes the most thought asked for until the 512th call: its answers never change. */
    private static void dearestCalls() {
        ToolUnion x = new ToolUnion();
        for (int i = 0; i < 8; i++) {
            x.tool(i % 3, i % 4, i % 2);
        }
        for (int i = 0; i < 4; i++) {
            x.man(20 * i, i % 2);
        }
        int calls = 12 + tell(x, 2, "work 0 takes 3;work 1 takes 3;work 2 takes 3 after 0;work 1 takes 3;work 0 takes 3 after 0 after 1;"
            + "work 2 takes 3;work 0 takes 3 after 2;work 1 takes 3 after 5;", 8);
        calls += tell(x, 3, "tool 0 man 0 work 0 from 0 for 99;tool 1 man 1 work 1 from 3 for 99;tool 2 man 2 work 5 from 9 for 99;", 3);
        int[] first = new int[10];
        for (int i = 0; calls < CALLS; i++, calls++) {
            int answer = dear(x, i % 10);
            if (i < 10) {
                first[i] = answer;
            }
            Due.is("dear call " + i % 10 + " as call " + (calls + 1), answer, first[i % 10]);
        }
        Due.is("calls", calls, CALLS);
    }

    private static int dear(ToolUnion x, int which) {
        switch (which) {
            case 0:
                return x.soonest(0);
            case 1:
                return x.soonest(1);
            case 2:
                return x.orders(0);
            case 3:
                return x.orders(17);
            case 4:
                return x.of(7, 10);
            case 5:
                return x.runs(99, 0);
            case 6:
                return x.ready();
            case 7:
                return x.few(3);
            case 8:
                return x.at(3, 2);
            default:
                return x.dull(0, 99);
        }
    }

    /** To the last HOUR that there can be and back, and on: 512 calls of one object. */
    private static void allHours() {
        ToolUnion x = new ToolUnion();
        x.tool(0, 0, 0);
        x.set(5, 0, 1000);
        int calls = 2;
        for (int hour = 60; hour <= 9960; hour += 60, calls++) {
            Due.is("hours(60)", x.hours(60), 0);
        }
        Due.is("hours(40)", x.hours(40), -1);
        Due.is("hours(39)", x.hours(39), 0);
        Due.is("look(3)", x.look(3), 9999);
        Due.is("hours(1)", x.hours(1), -1);
        Due.is("of(0, 3)", x.of(0, 3), 0);
        calls += 5;
        while (calls + 4 <= CALLS) {
            Due.is("undo()", x.undo(), true);
            Due.is("look(3)", x.look(3), 9998);
            Due.is("hours(1)", x.hours(1), 0);
            Due.is("look(3)", x.look(3), 9999);
            calls += 4;
        }
    }

    /** How many calls it took. */
    private static int tell(ToolUnion x, int k, String text, int lines) {
        Due.is("text(" + k + ")", Due.tell(x, k, text), lines);
        return (text.length() + 19) / 20 + 2;
    }
}
