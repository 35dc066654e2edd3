/** For each sentence of each promise a test of its own, at its bounds; what the words mean is tested by the Terms. */
final class BoundsOfCallsTest extends Bounds {
    private static final int LEAST = Integer.MIN_VALUE;
    private static final int MOST = Integer.MAX_VALUE;

    private BoundsOfCallsTest() {
    }

    public static void main(String[] args) throws java.io.IOException {
        Doc.read(args[0]);
        newObject();
        state();
        toolAndMan();
        set();
        mend();
        strike();
        may();
        hours();
        feed();
        end();
        text();
        textsInPlace();
        fault();
        of();
        at();
        work();
        serves();
        tells();
        book();
        soonest();
        few();
        changes();
        vote();
        lasts();
        runs();
        idleAndDull();
        lovedAndReady();
        seen();
        orders();
        undo();
        image();
        look();
        Doc.allOf("Promise*");
        Due.finish("BoundsOfCallsTest");
    }

    private static void of(int promise, String words) {
        Doc.of("Promise " + promise, words);
    }

    /** Three works are done by three hours, and one line is refused; then it is hour 4. */
    private static void work4Hours() {
        yard();
        tell(3, "tool 0 man 0 work 0 from 0 for 2;tool 2 man 1 work 1 from 2 for 1;tool 1 man 1 work 2 from 2 for 2;");
        is("hours(4)", x.hours(4), 1);
    }

    private static void newObject() {
        of(1, "Nobody in the yard.");
        fresh();
        is("look(0)", x.look(0), 0);
        is("look(1)", x.look(1), 0);
        is("of(0, 0)", x.of(0, 0), -2);
        is("at(0, 0)", x.at(0, 0), -2);
        is("work(0, 0)", x.work(0, 0), -2);
        is("serves(0, 0)", x.serves(0, 0), -1);
        is("mend(0, true)", x.mend(0, true), false);
        is("vote(0)", x.vote(0), 0);
        is("vote(1)", x.vote(1), -1);
        is("idle(1)", x.idle(1), 0);
        is("soonest(0)", x.soonest(0), 0);
        is("hours(1)", x.hours(1), 0);
        ToolUnion other = new ToolUnion();
        x.tool(0, 0, 0);
        is("another object", other.look(0), 0);
    }

    private static void state() {
        of(2, "STATE is told: what it was.");
        fresh();
        int was = 0;
        for (int v : new int[] {LEAST, -1, 0, 1, MOST, 0}) {
            is("state(" + v + ")", x.state(v), was);
            is("look(6)", x.look(6), v);
            was = v;
        }
    }

    private static void toolAndMan() {
        of(3, "A TOOL: the number; NONE if one can't be, ");
        yard();
        x.mend(0, true);
        String before = all();
        int[][] wrong = {{-1, 0, 0}, {4, 0, 0}, {0, -1, 0}, {0, 4, 0}, {0, 0, -1}, {0, 0, 2}, {LEAST, 0, 0}, {0, MOST, 0}, {0, 0, 1 << 31}};
        for (int[] w : wrong) {
            is("tool(" + w[0] + ", " + w[1] + ", " + w[2] + ")", x.tool(w[0], w[1], w[2]), -1);
        }
        nothingChanged(before);
        is("the next number", x.tool(3, 3, 1), 3);

        of(3, "or there are eight.");
        for (int i = 4; i < 8; i++) {
            is("tool", x.tool(0, 0, 0), i);
        }
        x.mend(0, true);
        is("tool", x.tool(0, 0, 0), -1);
        is("look(0)", x.look(0), 8);
        is("look(10)", x.look(10), 1);
        is("of(8, 0)", x.of(8, 0), -2);

        of(4, "A MAN: the number; NONE if one can't be, ");
        yard();
        x.mend(0, true);
        before = all();
        for (int[] w : new int[][] {{-1, 0}, {100, 0}, {0, -1}, {0, 2}, {LEAST, 0}, {MOST, 0}, {0, LEAST}, {0, MOST}}) {
            is("man(" + w[0] + ", " + w[1] + ")", x.man(w[0], w[1]), -1);
        }
        nothingChanged(before);
        is("the next number", x.man(99, 1), 2);

        of(4, "or there are four.");
        is("man", x.man(0, 0), 3);
        x.mend(0, true);
        is("man", x.man(0, 0), -1);
        is("look(1)", x.look(1), 4);
        is("look(10)", x.look(10), 1);
        is("at(4, 0)", x.at(4, 0), -2);
    }

    private static void set() {
        of(5, "What 0 EDGE, 1 MOOD, 2 VOTES, 3 OFF of TOOL who; ");
        yard();
        int[] value = {97, 8, 7, 6};
        for (int what = 0; what < 4; what++) {
            is("set", x.set(what, 2, value[what]), true);
            is("of it", x.of(2, 3 + what), value[what]);
        }
        is("of another one", x.of(1, 3) + x.of(1, 4) + x.of(1, 5) + x.of(1, 6), 118);
        for (int i = 3; i < 8; i++) {
            x.tool(0, 0, 0);
        }
        for (int i = 0; i < 8; i++) {
            for (int what = 0; what < 4; what++) {
                is("set", x.set(what, i, i & 7), true);
            }
        }
        for (int i = 0; i < 8; i++) {
            is("of each", 1000 * x.of(i, 3) + 100 * x.of(i, 4) + 10 * x.of(i, 5) + x.of(i, 6), 1111 * i);
        }

        of(5, "4 SKILL of MAN who; ");
        is("set(4, 1, 98)", x.set(4, 1, 98), true);
        is("at(1, 0)", x.at(1, 0), 98);
        is("at(0, 0)", x.at(0, 0), 50);
        x.man(0, 0);
        x.man(0, 0);
        for (int i = 0; i < 4; i++) {
            is("the most", x.set(4, i, 99), true);
            is("it is", x.at(i, 0), 99);
            is("the least", x.set(4, i, 0), true);
            is("it is", x.at(i, 0), 0);
            x.set(4, i, 10 + i);
        }
        for (int i = 0; i < 4; i++) {
            is("of each", x.at(i, 0), 10 + i);
        }

        of(5, "5 RUST, 6 QUOTA (who not asked): true; ");
        for (int who : new int[] {0, -1, 8, LEAST, MOST}) {
            is("set(5, who, 999)", x.set(5, who, 999), true);
            is("look(12)", x.look(12), 999);
            is("set(6, who, 79)", x.set(6, who, 79), true);
            is("look(13)", x.look(13), 79);
            is("set(5, who, 0)", x.set(5, who, 0), true);
            is("set(6, who, 1)", x.set(6, who, 1), true);
        }

        of(5, "false if one can't be, ");
        yard();
        x.mend(0, true);
        String before = all();
        int[] most = {99, 99, 9, 7, 99, 1000, 80};
        for (int what = 0; what < 7; what++) {
            int least = what == 6 ? 1 : 0;
            for (int v : new int[] {least - 1, most[what] + 1, LEAST, MOST}) {
                is("set(" + what + ", 0, " + v + ")", x.set(what, 0, v), false);
            }
            for (int who : new int[] {-1, what == 4 ? 2 : 3, 8, LEAST, MOST}) {
                is("set(" + what + ", " + who + ", 1)", what < 5 && x.set(what, who, 1), false);
            }
        }
        nothingChanged(before);

        of(5, "or another what.");
        for (int what : new int[] {-1, 7, 8, LEAST, MOST}) {
            is("set(" + what + ", 0, 1)", x.set(what, 0, 1), false);
        }
        nothingChanged(before);
    }

    private static void mend() {
        of(6, "A TOOL is SHARPENED (oil false), or OILED: true; ");
        yard();
        is("mend(2, false)", x.mend(2, false), true);
        is("edge", x.of(2, 3), 80);
        is("mood", x.of(2, 4), 45);
        is("mend(2, true)", x.mend(2, true), true);
        is("edge", x.of(2, 3), 80);
        is("mood", x.of(2, 4), 55);
        x.set(0, 2, 99);
        x.set(1, 2, 0);
        is("what changes nothing is done, too", x.mend(2, false), true);
        is("look(10)", x.look(10), 1);

        of(6, "false if there is none such.");
        String before = all();
        for (int tool : new int[] {-1, 3, 7, 8, LEAST, MOST}) {
            is("mend(" + tool + ", false)", x.mend(tool, false), false);
            is("mend(" + tool + ", true)", x.mend(tool, true), false);
        }
        nothingChanged(before);
    }

    private static void strike() {
        of(7, "A BRANCH STRIKES, or no more: true; ");
        yard();
        for (int branch = 0; branch < 4; branch++) {
            is("strike", x.strike(branch, true), true);
            is("look(4)", x.look(4), 1 << branch);
            is("no more", x.strike(branch, false), true);
            is("look(4)", x.look(4), 0);
        }

        of(7, "false if one can't be ");
        x.strike(1, true);
        String before = all();
        for (int branch : new int[] {-1, 4, 32, 33, LEAST, MOST}) {
            is("strike(" + branch + ", true)", x.strike(branch, true), false);
            is("strike(" + branch + ", false)", x.strike(branch, false), false);
        }
        nothingChanged(before);

        of(7, "(it does so already).");
        is("strike(1, true)", x.strike(1, true), false);
        is("strike(0, false)", x.strike(0, false), false);
        nothingChanged(before);
    }

    private static void may() {
        of(8, "MAY of a BRANCH and a KIND: true; ");
        yard();
        for (int i = 0; i < 4; i++) {
            is("may not", x.may(i, 3 - i, false), true);
            is("look", x.look(20 + i), 15 - (8 >> i));
            is("may", x.may(i, 3 - i, true), true);
            is("look", x.look(20 + i), 15);
        }

        of(8, "false if one can't be ");
        x.may(2, 1, false);
        String before = all();
        for (int wrong : new int[] {-1, 4, 32, 33, LEAST, MOST}) {
            is("may(" + wrong + ", 0, false)", x.may(wrong, 0, false), false);
            is("may(" + wrong + ", 0, true)", x.may(wrong, 0, true), false);
            is("may(0, " + wrong + ", false)", x.may(0, wrong, false), false);
            is("may(0, " + wrong + ", true)", x.may(0, wrong, true), false);
        }
        nothingChanged(before);

        of(8, "(it is so already).");
        is("may(2, 1, false)", x.may(2, 1, false), false);
        is("may(2, 0, true)", x.may(2, 0, true), false);
        nothingChanged(before);
    }

    private static void hours() {
        of(9, "HOURS go by (1 .. 60): ");
        yard();
        is("hours(1)", x.hours(1), 0);
        is("look(3)", x.look(3), 1);
        is("hours(60)", x.hours(60), 0);
        is("look(3)", x.look(3), 61);

        of(9, "how many lines were REFUSED in them.");
        yard();
        tell(3, "tool 0 man 0 work 0 from 1 for 99;tool 0 man 0 work 1 from 58 for 3;");
        is("hours(60): from hour 3 on, and by 58 and 59", x.hours(60), 57 + 2);
        is("hours(1)", x.hours(1), 2);
        is("hours(40)", x.hours(40), 39);

        of(9, "NONE, and nothing is done, if one can't be, ");
        yard();
        tell(3, "tool 0 man 0 work 0 from 0 for 99;");
        x.mend(0, true);
        String before = all();
        for (int n : new int[] {0, -1, 61, LEAST, MOST, MOST - 1}) {
            is("hours(" + n + ")", x.hours(n), -1);
        }
        nothingChanged(before);

        of(9, "or HOUR would be above 9999.");
        yard();
        tell(3, "tool 0 man 0 work 0 from 9940 for 99;");
        goTo(9939);
        x.undo();
        is("look(3)", x.look(3), 9938);
        is("hours(60): 58 of them by the rota, two of work", x.hours(60), 56);
        is("look(3)", x.look(3), 9998);
        is("hours(2)", x.hours(2), -1);
        is("nothing is done", x.look(3), 9998);
        is("hours(1)", x.hours(1), 1);
        is("look(3)", x.look(3), 9999);
        before = all();
        is("hours(1)", x.hours(1), -1);
        is("hours(60)", x.hours(60), -1);
        nothingChanged(before);
        is("undo()", x.undo(), true);
        is("an hour again", x.hours(1), 1);
    }

    private static void feed() {
        of(10, "Twenty bytes come behind the TAPE, of each number the highest first: how many it has.");
        yard();
        // "will", " ; \n", "    ", "wont", ";  \n"
        is("feed", x.feed(0x77696c6c, 0x203b200a, 0x20202020, 0x776f6e74, 0x3b20200a), 20);
        is("end(14)", x.end(14), true);
        // behind "wo": "nt;w", "ont;", ..
        is("feed", x.feed(0x6e743b77, 0x6f6e743b, 0x20202020, 0x20202020, 0x2020203b), 34);
        is("end(33)", x.end(33), true);
        is("text(0)", x.text(0), 3);
        is("a byte above 127", x.feed(0x77696c6c, 0xff3b3b3b, -1, -1, -1), 20);
        is("text(0)", x.text(0), -1);
        is("fault(1)", x.fault(1), 4);

        of(10, "NONE, and nothing comes, if there would be more than 400.");
        for (int i = 1; i <= 20; i++) {
            is("feed", x.feed(0x20202020, 0x20202020, 0x20202020, 0x20202020, i < 20 ? 0x20202020 : 0x776f6e74), 20 * i);
        }
        is("feed", x.feed(0, 0, 0, 0, 0), -1);
        is("still 400", x.end(400), true);
        is("text(0)", x.text(0), -1);
        is("the text's length", x.fault(1), 400);
        Due.feed(x, " ".repeat(395) + "will;");
        is("a text of 400", x.text(0), 1);
        Due.feed(x, " ".repeat(381));
        is("feed", x.feed(0, 0, 0, 0, 0), -1);
        is("nothing came", x.end(382), false);
        is("end(380)", x.end(380), true);
        is("feed", x.feed(0x20202020, 0x20202020, 0x20202020, 0x20202020, 0x20202020), 400);
        is("text(0)", x.text(0), 0);
    }

    private static void end() {
        of(11, "The TAPE has its first n bytes alone: true; ");
        yard();
        Due.feed(x, "will;will;wont");
        is("all", x.end(14), true);
        is("some", x.end(10), true);
        is("text(0)", x.text(0), 2);
        Due.feed(x, "wont");
        is("none", x.end(0), true);
        is("none, of none", x.end(0), true);
        is("text(0)", x.text(0), 0);

        of(11, "false, changing nothing, if it has not so many, ");
        is("end(1)", x.end(1), false);
        Due.feed(x, "will;");
        for (int n : new int[] {6, 400, 401, MOST}) {
            is("end(" + n + ")", x.end(n), false);
        }

        of(11, "or n is below 0.");
        is("end(-1)", x.end(-1), false);
        is("end(least)", x.end(LEAST), false);
        is("text(0)", x.text(0), 1);
    }

    private static void text() {
        of(12, "The TAPE, empty then, is TEXT k: how many lines, WORKS.");
        yard();
        is("text(0)", tell(0, "will;wont;will;"), 3);
        is("the tape is empty", x.end(1), false);
        is("text(1)", tell(1, "wear 1;mood 1;"), 2);
        is("text(2)", tell(2, "work 0 takes 1;work 0 takes 1;work 1 takes 1;"), 3);
        is("text(3)", tell(3, "tool 0 man 0 work 0 from 0 for 1;"), 1);
        is("look(7) to look(9)", 100 * x.look(7) + 10 * x.look(8) + x.look(9), 321);
        for (int k = 0; k < 4; k++) {
            is("an empty tape", x.text(k), 0);
        }
        is("look(7) to look(9)", x.look(7) + x.look(8) + x.look(9) + x.look(2), 0);

        of(12, "NONE: no such one (fault() tells 0), ");
        yard();
        x.mend(0, true);
        fault(0, "wont", 1, 4);
        String before = all();
        for (int k : new int[] {-1, 4, 5, LEAST, MOST}) {
            fault(0, "wont", 1, 4);
            Due.feed(x, "wont;");
            is("text(" + k + ")", x.text(k), -1);
            is("fault(0)", x.fault(0), 0);
            is("fault(1)", x.fault(1), -1);
            is("look(10)", x.look(10), 1);
            x.end(0);
        }
        fault(0, "wont", 1, 4);
        nothingChanged(before);
    }

    private static void textsInPlace() {
        of(12, "or a FAULT (it stays as it was).");
        yard();
        tell(0, "wont when skill=30;");
        tell(1, "wear 7;");
        tell(3, "tool 0 man 0 work 0 from 0 for 1;");
        x.seen(0, 1);
        x.hours(1);
        String[] texts = {"will;wont", "wear 1;wear", "work 3 takes 1;work", "tool 1 man 1 work 2 from 3 for 4;tool"};
        fault(0, "will", 1, 4);
        String before = all();
        for (int k = 0; k < 4; k++) {
            fault(k, texts[k], 1, texts[k].length());
            is("the tape is empty", x.end(1), false);
        }
        nothingChanged(before);
        is("the law", x.serves(0, 1), 0);
        is("the other law", x.tells(0, 0, 0), 7);
        is("what was seen", x.look(11), 1);

        of(12, "(A HULL told: A ROTA is empty then, nothing SEEN.)");
        tell(3, "tool 0 man 0 work 0 from 0 for 99;tool 2 man 0 work 0 from 0 for 99;");
        is("an empty hull", tell(2, ""), 0);
        is("look(9)", x.look(9), 0);
        is("look(11)", x.look(11), 0);
        is("nothing is done or refused", x.runs(9, 0) + x.runs(9, 1), 0);
        is("the laws stay", x.look(7) + x.look(8), 2);
        is("the hour stays", x.look(3), 1);
        is("the book stays", x.look(5), 1);
        is("hours stay", x.of(0, 8), 1);
        yard();
        x.seen(0, 1);
        tell(3, "tool 0 man 0 work 0 from 0 for 1;");
        tell(2, "work 0 takes 2;work 1 takes 1 after 0;work 0 takes 1;");
        is("of the same hull, too", x.look(9) + x.look(11), 0);
        is("nothing is refused", x.hours(2), 0);
        is("nothing is done", x.work(0, 3), 0);
        is("orders", x.orders(0), 3);
    }

    private static void fault() {
        of(13, "Of the latest text(): what 0 the FAULT (0 without one), 1 its place (NONE).");
        fresh();
        is("no text yet", x.fault(0), 0);
        is("no text yet", x.fault(1), -1);
        fault(0, "wear", 1, 0);
        fault(2, "work 9", 2, 5);
        fault(0, "will;".repeat(17), 3, 80);
        is("fault(0) still", x.fault(0), 3);
        is("a text without one", tell(0, ""), 0);
        is("fault(0)", x.fault(0), 0);
        is("fault(1)", x.fault(1), -1);

        of(13, "NONE for another what.");
        fault(2, "work 9", 2, 5);
        for (int what : new int[] {-1, 2, 3, LEAST, MOST}) {
            is("fault(" + what + ")", x.fault(what), -1);
        }
    }

    private static void of() {
        of(14, "Of a TOOL what 0 KIND, 1 BRANCH, 2 LEFT, 3 EDGE, 4 MOOD, 5 VOTES, 6 OFF, 7 TODAY, 8 HOURS, 9 SWINGS, 10 POWER, ");
        crew(1, "work 0 takes 3;work 2 takes 3;", 2);
        x.tool(2, 3, 1);
        int[] set = {70, 40, 3, 5};
        for (int what = 0; what < 4; what++) {
            x.set(what, 1, set[what]);
        }
        x.set(6, 0, 2);
        tell(3, "tool 1 man 0 work 1 from 7 for 2;");
        goTo(9);
        int[] due = {2, 3, 1, 68, 40, 3, 5, 1, 2, 2, 2};
        for (int what = 0; what < due.length; what++) {
            is("of(1, " + what + ")", x.of(1, what), due[what]);
        }

        of(14, "11 which MAN it has as a MATE (NONE).");
        is("of(1, 11)", x.of(1, 11), 0);
        is("of(0, 11)", x.of(0, 11), -1);

        of(14, "NONE - 1 if there is none such, ");
        for (int tool : new int[] {-1, 2, 7, 8, LEAST, MOST}) {
            for (int what = 0; what < 12; what++) {
                is("of(" + tool + ", " + what + ")", x.of(tool, what), -2);
            }
        }

        of(14, "or another what.");
        for (int what : new int[] {-1, 12, 13, LEAST, MOST}) {
            is("of(0, " + what + ")", x.of(0, what), -2);
        }
    }

    private static void at() {
        of(15, "Of a MAN what 0 SKILL, 1 LEFT, 2 which TOOL he has as a MATE (NONE).");
        yard();
        x.strike(2, true);
        tell(0, "wont when edge=60 and skill=50;");
        is("at(1, 0)", x.at(1, 0), 30);
        is("at(1, 1)", x.at(1, 1), 1);
        is("at(1, 2)", x.at(1, 2), 0);
        is("at(0, 2)", x.at(0, 2), -1);

        of(15, "NONE - 1 if there is none such, ");
        for (int man : new int[] {-1, 2, 3, 4, LEAST, MOST}) {
            for (int what = 0; what < 3; what++) {
                is("at(" + man + ", " + what + ")", x.at(man, what), -2);
            }
        }

        of(15, "or another what.");
        for (int what : new int[] {-1, 3, 11, LEAST, MOST}) {
            is("at(0, " + what + ")", x.at(0, what), -2);
        }
    }

    private static void work() {
        of(16, "Of a WORK what 0 KIND, 1 TAKES, 2 AFTER (a set), 3 hours that are done, 4 1 if it is OPEN, 5 1 if it is DONE, else 0, 6 HANDS, ");
        yard();
        tell(2, "work 0 takes 1;work 0 takes 3;work 1 takes 2 after 1 after 0;work 3 takes 1;");
        tell(3, "tool 0 man 0 work 0 from 0 for 1;tool 1 man 1 work 1 from 0 for 1;");
        x.hours(1);
        int[][] due = {{0, 1, 0, 1, 0, 1, 4, 0, 0}, {0, 3, 0, 1, 1, 0, 4, 0, 0}, {1, 2, 3, 0, 0, 0, 2, 2, 0}, {3, 1, 0, 0, 1, 0, 0, -1, -1}};
        for (int i = 0; i < due.length; i++) {
            for (int what = 0; what < 7; what++) {
                is("work(" + i + ", " + what + ")", x.work(i, what), due[i][what]);
            }
        }

        of(16, "7, 8 TOOL and MAN of the first (NONE).");
        for (int i = 0; i < due.length; i++) {
            for (int what = 7; what < 9; what++) {
                is("work(" + i + ", " + what + ")", x.work(i, what), due[i][what]);
            }
        }

        of(16, "NONE - 1 if there is none such, ");
        for (int work : new int[] {-1, 4, 7, 8, LEAST, MOST}) {
            for (int what = 0; what < 9; what++) {
                is("work(" + work + ", " + what + ")", x.work(work, what), -2);
            }
        }

        of(16, "or another what.");
        for (int what : new int[] {-1, 9, 10, LEAST, MOST}) {
            is("work(0, " + what + ")", x.work(0, what), -2);
        }
    }

    private static void serves() {
        of(17, "Whether a TOOL SERVES a MAN now: 1, 0; ");
        yard();
        tell(0, "wont when skill=30 and kind=0;");
        is("serves(0, 0)", x.serves(0, 0), 1);
        is("serves(0, 1)", x.serves(0, 1), 0);
        is("serves(2, 1)", x.serves(2, 1), 1);

        of(17, "NONE if there is none such.");
        for (int i : new int[] {-1, 4, 8, LEAST, MOST}) {
            is("serves(" + i + ", 0)", x.serves(i, 0), -1);
            is("serves(0, " + i + ")", x.serves(0, i), -1);
        }
        is("serves(3, 0)", x.serves(3, 0), -1);
        is("serves(0, 2)", x.serves(0, 2), -1);
    }

    private static void tells() {
        of(18, "What EDGES tell of a TOOL and a MAN now: what 0 wear, 1 mood, 2 like.");
        yard();
        tell(1, "mood skill-40;like edge*10+same;wear kind+5;");
        int[] due = {5, 10, 601, 5, -10, 600, 6, 10, 601};
        for (int i = 0; i < due.length; i++) {
            is("tells " + i, x.tells(i < 6 ? 0 : 2, i / 3 % 2, i % 3), due[i]);
        }

        of(18, "NONE - 999 if there is none such, ");
        for (int i : new int[] {-1, 3, 4, 8, LEAST, MOST}) {
            is("tells(" + i + ", 0, 0)", x.tells(i, 0, 0), -1000);
            is("tells(0, " + i + ", 2)", x.tells(0, i, 2), -1000);
        }
        is("tells(0, 2, 1)", x.tells(0, 2, 1), -1000);

        of(18, "or another what.");
        for (int what : new int[] {-1, 3, 4, LEAST, MOST}) {
            is("tells(0, 0, " + what + ")", x.tells(0, 0, what), -1000);
        }
    }

    private static void book() {
        of(19, "Of line i of THE BOOK what 0 HOUR, 1 TOOL, 2 MAN, 3 WORK.");
        work4Hours();
        int[] due = {0, 1000, 2211, 2112};
        // by hour 2 man 1 is at work 1, so that line 2 is refused there
        is("look(5)", x.look(5), 4);
        due[3] = 3112;
        for (int i = 0; i < due.length; i++) {
            is("line " + i, 1000 * x.book(i, 0) + 100 * x.book(i, 1) + 10 * x.book(i, 2) + x.book(i, 3), due[i]);
        }

        of(19, "NONE if there is none such, ");
        for (int i : new int[] {-1, 4, 199, 200, LEAST, MOST}) {
            for (int what = 0; what < 4; what++) {
                is("book(" + i + ", " + what + ")", x.book(i, what), -1);
            }
        }
        x.undo();
        is("one that was undone", x.book(3, 0), -1);

        of(19, "or another what.");
        for (int what : new int[] {-1, 4, 5, LEAST, MOST}) {
            is("book(0, " + what + ")", x.book(0, what), -1);
        }
    }

    private static void soonest() {
        of(20, "SOONEST what 0 HOURS, 1 the set of WORKS.");
        yard();
        is("soonest(0)", x.soonest(0), 3);
        is("soonest(1)", x.soonest(1), 1);
        work4Hours();
        is("all are done", x.soonest(0), 0);
        is("all are done", x.soonest(1), 0);

        of(20, "NONE if it can't be, ");
        yard();
        x.strike(2, true);
        is("a work without hands", x.soonest(0), -1);
        is("a work without hands", x.soonest(1), -1);
        crew(0, "work 0 takes 1;", 1);
        is("nobody", x.soonest(0), -1);
        is("nobody", x.soonest(1), -1);
        work4Hours();
        x.strike(0, true);
        x.strike(1, true);
        x.strike(2, true);
        is("none is left to be done", x.soonest(0), 0);

        of(20, "or another what.");
        for (int what : new int[] {-1, 2, 3, 10, LEAST, MOST}) {
            is("soonest(" + what + ")", x.soonest(what), -1);
        }
    }

    private static void few() {
        of(21, "STOP what 0 how many, 1 the set; KEEP 2, 3.");
        yard();
        int[] due = {1, 4, 2, 5};
        for (int what = 0; what < 4; what++) {
            is("few(" + what + ")", x.few(what), due[what]);
        }

        of(21, "NONE if it can't be (STOP: no WORK is left; ");
        work4Hours();
        is("few(0)", x.few(0), -1);
        is("few(1)", x.few(1), -1);
        is("few(2)", x.few(2), 0);
        is("few(3)", x.few(3), 0);
        fresh();
        is("few(0)", x.few(0), -1);
        is("few(1)", x.few(1), -1);
        is("few(2)", x.few(2), 0);
        is("few(3)", x.few(3), 0);

        of(21, "KEEP: some has no HANDS), ");
        yard();
        x.strike(2, true);
        is("few(2)", x.few(2), -1);
        is("few(3)", x.few(3), -1);
        is("few(0)", x.few(0), 0);
        is("few(1)", x.few(1), 0);

        of(21, "or another what.");
        x.strike(2, false);
        for (int what : new int[] {-1, 4, 5, LEAST, MOST}) {
            is("few(" + what + ")", x.few(what), -1);
        }
    }

    private static void changes() {
        of(22, "CHANGES what 0 how many, 10 + k the BRANCH of KIND k (NONE: none).");
        yard();
        is("changes(0)", x.changes(0), 0);
        is("changes(10)", x.changes(10), -1);
        x.may(2, 1, false);
        is("changes(0)", x.changes(0), 1);
        is("changes(11)", x.changes(11), 2);
        is("changes(10)", x.changes(10), -1);
        is("changes(12)", x.changes(12), -1);
        is("changes(13)", x.changes(13), -1);

        of(22, "NONE if they can't be, ");
        x.may(0, 0, false);
        x.may(1, 0, false);
        x.strike(2, true);
        is("one can, one can't", x.changes(0), -1);
        is("one can, one can't", x.changes(10), -1);
        is("one can, one can't", x.changes(11), -1);
        x.strike(2, false);
        is("both can", x.changes(0), 2);
        tell(2, "work 3 takes 1;");
        is("no tool of its kind", x.changes(0), -1);
        crew(0, "work 0 takes 1;", 1);
        x.tool(0, 0, 0);
        is("no man", x.changes(0), -1);

        of(22, "or another what.");
        yard();
        x.may(2, 1, false);
        for (int what : new int[] {-1, 1, 9, 14, 15, 32, 42, 43, -21, -22, LEAST, LEAST + 11, MOST}) {
            is("changes(" + what + ")", x.changes(what), -1);
        }
    }

    private static void vote() {
        of(23, "A VOTE: 1 if it is agreed, else 0; ");
        yard();
        x.set(6, 0, 2);
        int[] due = {0, 0, 0, 1, 0, 1, 1, 1};
        for (int set = 0; set < 8; set++) {
            is("vote(" + set + ")", x.vote(set), due[set]);
        }

        of(23, "NONE if the set is not one of TOOLS.");
        for (int set : new int[] {-1, 8, 9, 15, 16, 255, 256, LEAST, MOST}) {
            is("vote(" + set + ")", x.vote(set), -1);
        }
        for (int i = 3; i < 8; i++) {
            x.tool(0, 0, 0);
        }
        is("vote(255)", x.vote(255), 1);
        is("vote(256)", x.vote(256), -1);
        is("vote(-1)", x.vote(-1), -1);
    }

    private static void lasts() {
        of(24, "LASTS; NONE if one can't be, ");
        yard();
        x.set(0, 2, 7);
        is("lasts(2, 1)", x.lasts(2, 1), 7);
        for (int i : new int[] {-1, 4, 8, LEAST, MOST}) {
            is("lasts(" + i + ", 0)", x.lasts(i, 0), -1);
            is("lasts(0, " + i + ")", x.lasts(0, i), -1);
        }
        is("lasts(3, 0)", x.lasts(3, 0), -1);
        is("lasts(0, 2)", x.lasts(0, 2), -1);

        of(24, "or 99 are not enough.");
        x.set(0, 0, 99);
        is("lasts(0, 0)", x.lasts(0, 0), 99);
        tell(1, "wear 0 when served=5;wear 1;");
        is("served stays no longer than an hour", x.lasts(0, 0), -1);
        tell(1, "wear 0;");
        x.set(0, 0, 1);
        is("never", x.lasts(0, 0), -1);
    }

    private static void runs() {
        of(25, "RUNS what 0 hours of WORK, 1 lines REFUSED, 2 the HOUR of the first, 3 its line (NONE).");
        yard();
        tell(3, "tool 0 man 0 work 0 from 2 for 1;tool 2 man 1 work 2 from 5 for 1;tool 2 man 1 work 0 from 4 for 1;");
        int[] due = {1, 2, 4, 2};
        for (int what = 0; what < 4; what++) {
            is("runs(9, " + what + ")", x.runs(9, what), due[what]);
        }
        is("runs(4, 1)", x.runs(4, 1), 0);
        is("runs(4, 2)", x.runs(4, 2), -1);
        is("runs(4, 3)", x.runs(4, 3), -1);

        of(25, "NONE if one can't be, ");
        for (int n : new int[] {0, -1, 100, LEAST, MOST}) {
            for (int what = 0; what < 4; what++) {
                is("runs(" + n + ", " + what + ")", x.runs(n, what), -1);
            }
        }

        of(25, "or another what.");
        for (int what : new int[] {-1, 4, 5, LEAST, MOST}) {
            is("runs(9, " + what + ")", x.runs(9, what), -1);
        }
    }

    private static void idleAndDull() {
        of(26, "IDLE; NONE if one can't be.");
        yard();
        tell(3, "tool 1 man 0 work 0 from 0 for 1;");
        is("idle(1)", x.idle(1), 5);
        is("idle(99)", x.idle(99), 5);
        for (int n : new int[] {0, -1, 100, LEAST, MOST}) {
            is("idle(" + n + ")", x.idle(n), -1);
        }

        of(27, "DULL; NONE if not by n HOURS, ");
        x.set(0, 1, 1);
        is("dull(1, 0)", x.dull(1, 0), -1);
        is("dull(1, 1)", x.dull(1, 1), 1);
        is("dull(1, 99)", x.dull(1, 99), 1);

        of(27, "or one can't be.");
        x.set(0, 1, 0);
        is("dull(1, 0)", x.dull(1, 0), 0);
        is("dull(1, 99)", x.dull(1, 99), 0);
        for (int n : new int[] {-1, 100, LEAST, MOST}) {
            is("dull(1, " + n + ")", x.dull(1, n), -1);
        }
        for (int tool : new int[] {-1, 3, 8, LEAST, MOST}) {
            is("dull(" + tool + ", 9)", x.dull(tool, 9), -1);
        }
    }

    private static void lovedAndReady() {
        of(28, "LOVED; NONE if nobody likes one.");
        yard();
        is("loved()", x.loved(), 0);
        tell(0, "wont;");
        is("none serves", x.loved(), -1);
        fresh();
        x.tool(0, 0, 0);
        is("no man", x.loved(), -1);
        fresh();
        x.man(0, 0);
        is("no tool", x.loved(), -1);

        of(29, "READY; NONE if not by then.");
        yard();
        is("ready()", x.ready(), -1);
        tell(3, "tool 0 man 0 work 0 from 0 for 2;tool 1 man 1 work 2 from 0 for 1;tool 2 man 1 work 1 from 2 for 1;");
        is("ready()", x.ready(), 3);
        tell(1, "wear 20 when kind=0;");
        x.set(0, 0, 20);
        is("no edge is left", x.ready(), -1);
    }

    private static void seen() {
        of(30, "It was SEEN that a WORK was done ahead of another one ");
        yard();
        is("seen(2, 0)", x.seen(2, 0), 1);
        is("orders(10)", x.orders(10), 2);

        of(30, "(a NONE: nothing was SEEN then): ");
        for (int b : new int[] {0, -1, 3, LEAST, MOST}) {
            x.seen(2, 0);
            is("seen(-1, " + b + ")", x.seen(-1, b), 0);
            is("look(11)", x.look(11), 0);
            is("orders(10)", x.orders(10), 0);
        }
        fresh();
        is("without a hull", x.seen(-1, 0), 0);

        of(30, "how many there are; ");
        yard();
        is("seen(0, 2)", x.seen(0, 2), 1);
        is("seen(1, 2)", x.seen(1, 2), 2);
        is("seen(2, 1)", x.seen(2, 1), 3);

        of(30, "NONE if one can't be (alike), ");
        String before = all();
        for (int i : new int[] {-2, 3, 7, 8, LEAST, MOST}) {
            is("seen(" + i + ", 0)", x.seen(i, 0), -1);
            is("seen(0, " + i + ")", x.seen(0, i), -1);
        }
        is("seen(0, -1)", x.seen(0, -1), -1);
        for (int i = 0; i < 3; i++) {
            is("alike", x.seen(i, i), -1);
        }
        nothingChanged(before);

        of(30, "or there are twelve.");
        yard();
        for (int i = 1; i <= 12; i++) {
            is("seen", x.seen(i % 2, 2), i);
        }
        before = all();
        is("a thirteenth", x.seen(2, 0), -1);
        nothingChanged(before);
        is("seen(-1, 0)", x.seen(-1, 0), 0);
        is("there is room", x.seen(2, 0), 1);
    }

    private static void orders() {
        of(31, "ORDERS what 0 how many, 10 + i the i-th WORK of the first.");
        yard();
        x.seen(2, 0);
        int[] due = {2, 0, 1};
        is("orders(0)", x.orders(0), 1);
        for (int i = 0; i < 3; i++) {
            is("orders(10 + " + i + ")", x.orders(10 + i), due[i]);
        }

        of(31, "NONE if there is none (10 + i), ");
        is("no fourth work", x.orders(13), -1);
        x.seen(0, 2);
        is("no order", x.orders(0), 0);
        for (int i = 0; i < 4; i++) {
            is("orders(10 + " + i + ")", x.orders(10 + i), -1);
        }
        tell(2, "work 0 takes 1;".repeat(8));
        is("the eighth", x.orders(17), 7);
        is("a ninth", x.orders(18), -1);
        tell(2, "");
        is("of no work", x.orders(0), 1);
        is("of no work", x.orders(10), -1);

        of(31, "or another what.");
        yard();
        for (int what : new int[] {-1, 1, 9, 13, LEAST, MOST}) {
            is("orders(" + what + ")", x.orders(what), -1);
        }
    }

    private static void undo() {
        of(32, "UNDO: true; ");
        yard();
        x.strike(0, true);
        is("undo()", x.undo(), true);
        is("look(4)", x.look(4), 0);

        of(32, "false if there is nothing.");
        String before = all();
        is("undo()", x.undo(), false);
        nothingChanged(before);
        fresh();
        is("undo()", x.undo(), false);
    }

    private static void image() {
        of(33, "THE IMAGE is taken (true), or gone back to (false): true; ");
        yard();
        is("image(true)", x.image(true), true);
        x.set(0, 0, 1);
        is("image(false)", x.image(false), true);
        is("edge", x.of(0, 3), 60);

        of(33, "false if there is none.");
        yard();
        x.mend(0, true);
        String before = all();
        is("image(false)", x.image(false), false);
        nothingChanged(before);
        fresh();
        is("image(true) of nobody", x.image(true), true);
        x.tool(0, 0, 0);
        is("image(false)", x.image(false), true);
        is("look(0)", x.look(0), 0);
    }

    private static void look() {
        of(34, "What 0 TOOLS, 1 MEN, 2 WORKS, 3 HOUR, 4 STRIKES, 5 lines of THE BOOK, 6 STATE, 7, 8 lines of LAWS 0, 1, 9 of A ROTA, "
            + "10 what can be undone, 11 couples SEEN, 12 RUST, 13 QUOTA, ");
        yard();
        x.set(5, 0, 17);
        x.set(6, 0, 18);
        x.state(19);
        x.set(0, 0, 0);
        x.set(0, 1, 0);
        x.man(1, 1);
        x.man(1, 1);
        tell(0, "will;");
        tell(1, "wear 1;wear 1;");
        tell(2, "work 1 takes 3;work 1 takes 3;");
        tell(3, "tool 2 man 0 work 0 from 0 for 1;".repeat(5));
        x.hours(1);
        x.strike(3, true);
        x.mend(0, true);
        for (int i = 0; i < 7; i++) {
            x.seen(0, 1);
        }
        int[] due = {3, 4, 2, 1, 8, 1, 19, 1, 2, 5, 3, 7, 17, 18};
        for (int what = 0; what < due.length; what++) {
            is("look(" + what + ")", x.look(what), due[what]);
        }

        of(34, "20 + b MAY of BRANCH b.");
        for (int b = 0; b < 4; b++) {
            x.may(b, b, false);
            is("look(20 + " + b + ")", x.look(20 + b), 15 - (1 << b));
        }

        of(34, "NONE for another what.");
        for (int what : new int[] {-1, 14, 15, 19, 24, 25, LEAST, MOST}) {
            is("look(" + what + ")", x.look(what), -1);
        }

        of(34, "(STATE as it is.)");
        for (int state : new int[] {-1, LEAST, MOST, 0}) {
            x.state(state);
            is("look(6)", x.look(6), state);
        }
    }
}
