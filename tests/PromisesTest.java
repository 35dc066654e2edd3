/** For each promise of the document: ordinary calls, the edges that it names, and wrong ones. */
final class PromisesTest {
    private static ToolUnion x;

    private PromisesTest() {
    }

    public static void main(String[] args) {
        newObject();
        state();
        tool();
        man();
        set();
        mend();
        strike();
        may();
        hours();
        hoursOfARota();
        rust();
        tape();
        textsOfLaws();
        textsOfAHull();
        textsOfARota();
        faults();
        faultsOfTooMuch();
        law();
        of();
        power();
        mates();
        at();
        work();
        serves();
        tells();
        book();
        soonest();
        few();
        changes();
        vote();
        lasts();
        runs();
        idle();
        dull();
        loved();
        ready();
        seen();
        orders();
        undo();
        undoForgets();
        image();
        imageOfRows();
        look();
        wildCalls();
        Due.finish("PromisesTest");
    }

    private static void is(String call, long got, long want) {
        Due.is(call, got, want);
    }

    private static void is(String call, boolean got, boolean want) {
        Due.is(call, got, want);
    }

    private static int tell(int k, String text) {
        return Due.tell(x, k, text);
    }

    /** Tools 0, 1 of kind 0, tool 2 of kind 1; two men; work 0 and 2 of kind 0, 1 of kind 1 after 0. */
    private static void yard() {
        x = new ToolUnion();
        x.tool(0, 0, 0);
        x.tool(0, 1, 1);
        x.tool(1, 2, 0);
        x.man(50, 0);
        x.man(30, 1);
        is("a hull", tell(2, "work 0 takes 2;work 1 takes 1 after 0;work 0 takes 1;"), 3);
    }

    // promise 1
    private static void newObject() {
        x = new ToolUnion();
        is("NONE", ToolUnion.NONE, -1);
        int[] due = {0, 0, 0, 0, 0, 0, 0, 0, 0, 0, 0, 0, 0, 1};
        for (int what = 0; what < due.length; what++) {
            is("new look(" + what + ")", x.look(what), due[what]);
        }
        for (int b = 0; b < 4; b++) {
            is("new look(20 + " + b + ")", x.look(20 + b), 15);
        }
        is("new fault(0)", x.fault(0), 0);
        is("new fault(1)", x.fault(1), -1);
        is("new undo()", x.undo(), false);
        is("new image(false)", x.image(false), false);
        is("new feed", x.feed(0, 0, 0, 0, 0), 20);
    }

    // promise 2
    private static void state() {
        x = new ToolUnion();
        is("state(7)", x.state(7), 0);
        is("state(least)", x.state(Integer.MIN_VALUE), 7);
        is("look(6)", x.look(6), Integer.MIN_VALUE);
        is("state(0)", x.state(0), Integer.MIN_VALUE);
    }

    // promise 3
    private static void tool() {
        x = new ToolUnion();
        is("tool(-1, 0, 0)", x.tool(-1, 0, 0), -1);
        is("tool(4, 0, 0)", x.tool(4, 0, 0), -1);
        is("tool(0, -1, 0)", x.tool(0, -1, 0), -1);
        is("tool(0, 4, 0)", x.tool(0, 4, 0), -1);
        is("tool(0, 0, -1)", x.tool(0, 0, -1), -1);
        is("tool(0, 0, 2)", x.tool(0, 0, 2), -1);
        for (int i = 0; i < 8; i++) {
            is("tool", x.tool(i % 4, 3 - i % 4, i % 2), i);
        }
        is("a ninth tool", x.tool(0, 0, 0), -1);
        is("look(0)", x.look(0), 8);
        int[] due = {3, 0, 1, 60, 50, 1, 7, 0, 0};
        for (int what = 0; what < due.length; what++) {
            is("of(7, " + what + ")", x.of(7, what), due[what]);
        }
    }

    // promise 4
    private static void man() {
        x = new ToolUnion();
        is("man(-1, 0)", x.man(-1, 0), -1);
        is("man(100, 0)", x.man(100, 0), -1);
        is("man(0, -1)", x.man(0, -1), -1);
        is("man(0, 2)", x.man(0, 2), -1);
        is("man(0, 0)", x.man(0, 0), 0);
        is("man(99, 1)", x.man(99, 1), 1);
        is("man(5, 0)", x.man(5, 0), 2);
        is("man(6, 0)", x.man(6, 0), 3);
        is("a fifth man", x.man(7, 0), -1);
        is("look(1)", x.look(1), 4);
        is("at(1, 0)", x.at(1, 0), 99);
        is("at(1, 1)", x.at(1, 1), 1);
    }

    // promise 5
    private static void set() {
        yard();
        int[] most = {99, 99, 9, 7};
        for (int what = 0; what < 4; what++) {
            is("set, too much", x.set(what, 1, most[what] + 1), false);
            is("set, too little", x.set(what, 1, -1), false);
            is("set of no tool", x.set(what, 3, 1), false);
            is("set of no tool", x.set(what, -1, 1), false);
            is("set, the most", x.set(what, 1, most[what]), true);
            is("of it", x.of(1, 3 + what), most[what]);
            is("set, the least", x.set(what, 1, 0), true);
            is("of it", x.of(1, 3 + what), 0);
        }
        is("set(4, 1, 99)", x.set(4, 1, 99), true);
        is("at(1, 0)", x.at(1, 0), 99);
        is("set(4, 2, 9)", x.set(4, 2, 9), false);
        is("set(4, -1, 9)", x.set(4, -1, 9), false);
        is("set(4, 1, 100)", x.set(4, 1, 100), false);
        is("set(4, 1, -1)", x.set(4, 1, -1), false);
        is("set(5, 77, 1000)", x.set(5, 77, 1000), true);
        is("look(12)", x.look(12), 1000);
        is("set(5, 0, 1001)", x.set(5, 0, 1001), false);
        is("set(5, 0, -1)", x.set(5, 0, -1), false);
        is("set(6, -9, 80)", x.set(6, -9, 80), true);
        is("look(13)", x.look(13), 80);
        is("set(6, 0, 0)", x.set(6, 0, 0), false);
        is("set(6, 0, 81)", x.set(6, 0, 81), false);
        is("set(7, 0, 1)", x.set(7, 0, 1), false);
        is("set(-1, 0, 1)", x.set(-1, 0, 1), false);
    }

    // promise 6
    private static void mend() {
        yard();
        is("mend(0, false)", x.mend(0, false), true);
        is("sharper", x.of(0, 3), 80);
        is("in a worse mood", x.of(0, 4), 45);
        x.mend(0, false);
        is("99 at most", x.of(0, 3), 99);
        is("mend(0, true)", x.mend(0, true), true);
        is("in a better mood", x.of(0, 4), 50);
        x.set(1, 0, 95);
        x.mend(0, true);
        is("99 at most", x.of(0, 4), 99);
        x.set(1, 0, 3);
        x.mend(0, false);
        is("0 at least", x.of(0, 4), 0);
        is("mend(3, true)", x.mend(3, true), false);
        is("mend(-1, false)", x.mend(-1, false), false);
    }

    // promise 7
    private static void strike() {
        yard();
        is("strike(1, false)", x.strike(1, false), false);
        is("strike(1, true)", x.strike(1, true), true);
        is("strike(1, true)", x.strike(1, true), false);
        is("strike(3, true)", x.strike(3, true), true);
        is("look(4)", x.look(4), 10);
        is("serves(1, 0)", x.serves(1, 0), 0);
        is("serves(0, 0)", x.serves(0, 0), 1);
        is("strike(1, false)", x.strike(1, false), true);
        is("serves(1, 0)", x.serves(1, 0), 1);
        is("strike(4, true)", x.strike(4, true), false);
        is("strike(-1, true)", x.strike(-1, true), false);
    }

    // promise 8
    private static void may() {
        yard();
        is("may(2, 1, true)", x.may(2, 1, true), false);
        is("may(2, 1, false)", x.may(2, 1, false), true);
        is("may(2, 1, false)", x.may(2, 1, false), false);
        is("look(22)", x.look(22), 13);
        is("serves(2, 0)", x.serves(2, 0), 0);
        is("may(2, 1, true)", x.may(2, 1, true), true);
        is("serves(2, 0)", x.serves(2, 0), 1);
        is("may(4, 1, false)", x.may(4, 1, false), false);
        is("may(-1, 1, false)", x.may(-1, 1, false), false);
        is("may(1, 4, false)", x.may(1, 4, false), false);
        is("may(1, 4, true)", x.may(1, 4, true), false);
        is("may(4, 0, true)", x.may(4, 0, true), false);
        is("may(1, -1, false)", x.may(1, -1, false), false);
    }

    // promise 9
    private static void hours() {
        yard();
        is("hours(0)", x.hours(0), -1);
        is("hours(61)", x.hours(61), -1);
        is("hours(-1)", x.hours(-1), -1);
        is("look(3)", x.look(3), 0);
        for (int i = 0; i < 166; i++) {
            x.hours(60);
        }
        is("look(3)", x.look(3), 9960);
        is("hours(40)", x.hours(40), -1);
        is("look(3)", x.look(3), 9960);
        is("hours(39)", x.hours(39), 0);
        is("look(3)", x.look(3), 9999);
        is("hours(1)", x.hours(1), -1);
        is("runs goes on in thought", x.runs(99, 0), 0);
    }

    private static void hoursOfARota() {
        yard();
        tell(1, "wear 70 when edge<40;wear 25;mood 0-30 when moods>30;mood 0-7;");
        tell(3, "tool 0 man 0 work 1 from 0 for 1;tool 2 man 0 work 1 from 0 for 3;tool 0 man 0 work 0 from 0 for 2;"
            + "tool 1 man 0 work 0 from 0 for 1;tool 0 man 1 work 2 from 0 for 1;tool 1 man 1 work 0 from 0 for 1;");
        // hour 0: of another kind and not open; not open; done; man busy; tool busy; done, and with it work 0
        is("hours(1)", x.hours(1), 4);
        is("work 0", x.work(0, 3), 2);
        is("wear is held to 20", x.of(0, 3), 40);
        is("mood is held to -20", x.of(0, 4), 30);
        is("book", x.look(5), 2);
        // hour 1: tool 2 works, since work 0 is done; work 0 is not open any more
        is("hours(1)", x.hours(1), 1);
        is("edge of 2", x.of(2, 3), 40);
        is("today of 2", x.of(2, 7), 1);
        is("hours of 2", x.of(2, 8), 1);
        // hour 2: work 1 is done
        is("hours(1)", x.hours(1), 1);
        is("today of 0", x.of(0, 7), 1);
        is("hours(5)", x.hours(5), 0);
        is("bell 0: today", x.of(2, 7), 0);
        is("bell 0: today", x.of(0, 7), 0);
        is("hours stay", x.of(2, 8), 1);
        tell(2, "work 0 takes 3;");
        tell(3, "tool 0 man 0 work 0 from 8 for 2;");
        x.hours(1);
        is("edge", x.of(0, 3), 20);
        is("another line tells the mood", x.of(0, 4), 23);
        x.set(0, 0, 15);
        x.set(1, 0, 5);
        is("hours(1)", x.hours(1), 0);
        is("an edge is 0 at least", x.of(0, 3), 0);
        is("a mood is 0 at least", x.of(0, 4), 0);
        tell(3, "tool 0 man 0 work 0 from 0 for 99;");
        is("without an edge", x.hours(2), 2);
    }

    private static void rust() {
        yard();
        tell(3, "tool 1 man 0 work 2 from 0 for 1;");
        x.set(5, 0, 1000);
        x.set(0, 2, 0);
        x.hours(1);
        is("rust of 0", x.of(0, 3), 59);
        is("1 worked", x.of(1, 3), 59);
        is("one draw, of 0 alone", x.look(6), 1013904223);
        x.set(5, 0, (1013904223 * 1664525 + 1013904223 >>> 8) % 1000);
        x.hours(1);
        is("below rust only", x.of(0, 3), 59);
        is("runs makes no draws", x.runs(9, 0), 0);
        int state = x.look(6);
        x.dull(0, 99);
        is("no draws in thought", x.look(6), state);
        x.set(5, 0, 0);
        x.hours(9);
        is("no draws without rust", x.look(6), state);
        int first = 0;
        while ((first * 1664525 + 1013904223 >>> 8) % 1000 != 0) {
            first++;
        }
        x.set(0, 0, 1);
        x.set(0, 1, 0);
        x.state(first);
        x.set(5, 0, 1);
        x.hours(1);
        is("a draw of 0 is below 1", x.of(0, 3), 0);
        is("one draw, since the others have no edge", x.look(6), first * 1664525 + 1013904223);
    }

    // promises 10, 11
    private static void tape() {
        x = new ToolUnion();
        is("feed", x.feed(0x77696c6c, 0x3b202020, 0x20202020, 0x0a202020, 0x20202020), 20);
        is("end(21)", x.end(21), false);
        is("end(-1)", x.end(-1), false);
        is("end(20)", x.end(20), true);
        is("end(5)", x.end(5), true);
        is("feed", x.feed(0x776f6e74, 0x3b202020, 0x20202020, 0x20202020, 0x2020203b), 25);
        is("end(24)", x.end(24), true);
        is("text(0)", x.text(0), 2);
        is("end(1) of an empty tape", x.end(1), false);
        is("end(0)", x.end(0), true);
        for (int i = 1; i <= 20; i++) {
            is("feed", x.feed(0x20202020, 0x20202020, 0x20202020, 0x20202020, 0x20202020), 20 * i);
        }
        is("feed of more than 400", x.feed(0, 0, 0, 0, 0), -1);
        is("end(381)", x.end(381), true);
        is("feed of more than 400", x.feed(0, 0, 0, 0, 0), -1);
        is("nothing came", x.end(382), false);
        is("a tape of blanks", x.text(0), 0);
        is("a new law", x.look(7), 0);
    }

    // promise 12
    private static void textsOfLaws() {
        yard();
        is("an empty law", x.text(0), 0);
        is("a law", tell(0, " will\nwhen\n1=1 ; wont ; "), 2);
        is("look(7)", x.look(7), 2);
        is("a fault", tell(0, "will;wont"), -1);
        is("it stays", x.look(7), 2);
        is("the tape is empty", x.end(1), false);
        is("a law of edges", tell(1, "wear1;mood 2when(not(1>2));like 3 ;"), 3);
        is("look(8)", x.look(8), 3);
        Due.feed(x, "will 1;");
        x.text(0);
        Due.feed(x, "will;");
        is("text(4)", x.text(4), -1);
        is("fault(0)", x.fault(0), 0);
        is("fault(1)", x.fault(1), -1);
        is("the tape is empty", x.end(1), false);
        is("text(-1)", x.text(-1), -1);
        is("look(7)", x.look(7), 2);
    }

    private static void textsOfAHull() {
        yard();
        x.seen(0, 2);
        tell(3, "tool 0 man 0 work 0 from 0 for 1;");
        x.hours(1);
        is("a hull", tell(2, "work 3 takes 3;work 2 takes 1 after 0 after 0;"), 2);
        is("no rota", x.look(9), 0);
        is("nothing seen", x.look(11), 0);
        is("nothing done", x.work(0, 3), 0);
        is("the book stays", x.look(5), 1);
        is("the hour stays", x.look(3), 1);
        tell(3, "tool 0 man 0 work 0 from 0 for 1;");
        x.seen(0, 1);
        is("a fault", tell(2, "work 3"), -1);
        is("the rota stays", x.look(9), 1);
        is("what was seen stays", x.look(11), 1);
        is("an empty hull", tell(2, ""), 0);
        is("no rota", x.look(9), 0);
    }

    private static void textsOfARota() {
        yard();
        is("a rota", tell(3, "tool 2 man 1 work 2 from 9999 for 99;"), 1);
        is("look(9)", x.look(9), 1);
        Due.fault(x, 3, "tool 3 man 0 work 0 from 0 for 1;", 2, 5);
        Due.fault(x, 3, "tool 0 man 2 work 0 from 0 for 1;", 2, 11);
        Due.fault(x, 3, "tool 0 man 0 work 3 from 0 for 1;", 2, 18);
        Due.fault(x, 3, "tool 0 man 0 work 0 from 10000 for 1;", 1, 25);
        Due.fault(x, 3, "tool 0 man 0 work 0 from 0 for 0;", 2, 31);
        Due.fault(x, 3, "tool 0 man 0 work 0 from 0 for 100;", 2, 31);
        Due.fault(x, 3, "tool 0 man 0 work 0 from 0 for 1", 1, 32);
        Due.fault(x, 3, "tool 0 work 0", 1, 7);
        is("look(9)", x.look(9), 1);
        // 21 lines are never shorter than 33 bytes each, so more than a tape has
        is("twelve lines", tell(3, "tool 0 man 0 work 0 from 0 for 1;".repeat(12)), 12);
        is("lines without blanks", tell(3, "tool0man0work0from0for1;".repeat(16)), 16);
        x = new ToolUnion();
        Due.fault(x, 3, "tool 0", 2, 5);
    }

    // promise 13
    private static void faults() {
        yard();
        Due.fault(x, 0, "will 1;", 1, 5);
        Due.fault(x, 0, "will  ", 1, 6);
        Due.fault(x, 0, "  wil;", 1, 2);
        Due.fault(x, 0, "Will;", 1, 0);
        for (String letter : new String[] {"A", "X", "Z", "a", "x", "z"}) {
            Due.fault(x, 0, "will" + letter + ";", 1, 0);
        }
        for (String sign : new String[] {"@", "[", "`", "{", ":", "_", "\u0000", "\r", "\u00a0", "\u00ff"}) {
            Due.fault(x, 0, "will" + sign + ";", 1, 4);
        }
        Due.fault(x, 0, "will\t;", 1, 4);
        Due.fault(x, 0, "will\u00e9;", 1, 4);
        Due.fault(x, 0, "wear 1;", 1, 0);
        Due.fault(x, 1, "will;", 1, 0);
        Due.fault(x, 0, "will when 12345=1;", 1, 10);
        Due.fault(x, 0, "will when 1=;", 1, 12);
        Due.fault(x, 0, "will when 1==1;", 1, 12);
        Due.fault(x, 0, "will when 1<2<3;", 1, 13);
        Due.fault(x, 0, "will when (1<2;", 1, 14);
        Due.fault(x, 0, "will when 1<2);", 1, 13);
        Due.fault(x, 0, "will when (1)<2;", 1, 12);
        Due.fault(x, 0, "will when 1<(2);", 1, 12);
        Due.fault(x, 0, "will when -1<2;", 1, 10);
        Due.fault(x, 0, "will when 4/edge<2;", 1, 12);
        Due.fault(x, 0, "will when 4/0<2;", 2, 12);
        Due.fault(x, 0, "will when 4/ 0000<2;", 2, 13);
        Due.fault(x, 0, "will when 1<2 and;", 1, 17);
        Due.fault(x, 0, "will when 1<2 not 1<2;", 1, 14);
        Due.fault(x, 0, "will when mood<2;", 1, 10);
        Due.fault(x, 0, "will when 1<2 1;", 1, 14);
        Due.fault(x, 1, "wear (1);", 1, 5);
        Due.fault(x, 1, "wear 1*;", 1, 7);
        Due.fault(x, 1, "wear 1<2;", 1, 6);
        Due.fault(x, 1, "wear 4/0 (;", 2, 7);
        Due.fault(x, 2, "work 4 takes 1;", 2, 5);
        Due.fault(x, 2, "work 0 takes 0;", 2, 13);
        Due.fault(x, 2, "work 0 takes 4;", 2, 13);
        Due.fault(x, 2, "work 0 takes 1 after 0;", 2, 21);
        Due.fault(x, 2, "work 0 takes 1;work 0 takes 1 after 1;", 2, 36);
        Due.fault(x, 2, "work 0 takes 1 after ;", 1, 21);
        Due.fault(x, 2, "work takes 1;", 1, 5);
        is("a text without a fault", tell(0, "will;"), 1);
        is("fault(0)", x.fault(0), 0);
        is("fault(1)", x.fault(1), -1);
        is("fault(2)", x.fault(2), -1);
        is("fault(-1)", x.fault(-1), -1);
    }

    private static void faultsOfTooMuch() {
        yard();
        String will = "will;";
        is("16 lines", tell(0, will.repeat(16)), 16);
        Due.fault(x, 0, will.repeat(17), 3, 80);
        Due.fault(x, 0, will.repeat(16) + "when", 1, 80);
        Due.fault(x, 0, will.repeat(16) + " wont", 3, 81);
        is("16 lines", tell(1, "wear 1;".repeat(16)), 16);
        Due.fault(x, 1, "like 1;".repeat(16) + "mood", 3, 112);
        is("8 works", tell(2, "work 0 takes 1;".repeat(8)), 8);
        Due.fault(x, 2, "work 0 takes 1;".repeat(8) + "work", 3, 120);
        Due.fault(x, 2, "work 0 takes 1;".repeat(8) + "take", 1, 120);
        is("8 open", tell(0, "will when " + "(".repeat(8) + "1=1" + ")".repeat(8) + ";"), 1);
        Due.fault(x, 0, "will when " + "(".repeat(9) + "1=1" + ")".repeat(9) + ";", 3, 18);
        Due.fault(x, 0, "will when " + "not(".repeat(4) + "not 1=1", 3, 26);
        is("they are closed again", tell(0, "will when " + "not(1=2)and not 1=2 and ".repeat(9) + "(1=1);"), 1);
        is("two behind one another", tell(0, "will when ((((((((1=1))))))) or (((((((1=1))))))));"), 1);
    }

    // what laws tell
    private static void law() {
        yard();
        x.set(1, 2, 41);
        x.set(3, 2, 5);
        String[] texts = {"skill", "edge", "moods", "today", "kind", "same", "branch", "bell", "weekday", "served",
            "2+3*4", "2*3+4", "9-4-3", "9-4+3", "20/3*3", "20*3/7", "1-8/3", "0-8/3", "9999*9999*9999", "1+2*3*4-5",
            "7-2*3-1", "0007", "skill/1"};
        int[] due = {50, 60, 41, 0, 1, 1, 2, 0, 0, 0, 14, 10, 2, 8, 18, 8, -1, -2, -999, 20, 0, 7, 50};
        for (int i = 0; i < texts.length; i++) {
            tell(1, "like " + texts[i] + ";");
            is(texts[i], x.tells(2, 0, 2), due[i]);
        }
        tell(1, "like (0-7)/2;");
        tell(1, "like skill-57;");
        is("-7", x.tells(2, 0, 2), -7);
        tell(1, "like edge*0-7/2;");
        is("-3", x.tells(2, 0, 2), -3);
        tell(1, "like 9999*9999*9999*0+1 when 9999*9999*9999<0;like 2;");
        is("ints wrap", x.tells(2, 0, 2), 9999 * 9999 * 9999 < 0 ? 1 : 2);
        tell(1, "like same when same=0;like 8;");
        is("same", x.tells(2, 1, 2), 0);
        String[] tests = {"1=1 or 1=1 and 1=2", "(1=1 or 1=1) and 1=2", "not 1=2 and 1=2", "not (1=2 and 1=2)", "1=2 or 1=2 or 1=1",
            "1=1 and 1=2 or 1=1", "1=2 and 1=1 or 1=2 and 1=1", "2<3", "3<3", "3>3", "4>3", "not not 1=1", "1=2 or not 1=1 or 1=2", "1+1=2*1"};
        int[] so = {1, 0, 0, 1, 1, 1, 0, 1, 0, 0, 1, 1, 0, 1};
        for (int i = 0; i < tests.length; i++) {
            tell(0, "will when " + tests[i] + ";wont;");
            is(tests[i], x.serves(2, 0), so[i]);
        }
        tell(0, "");
        x.hours(60);
        tell(1, "like bell*100+weekday;");
        is("hour 60: bell 4, weekday 0", x.tells(2, 0, 2), 400);
        x.hours(3);
        is("hour 63: bell 7, weekday 0", x.tells(2, 0, 2), 700);
        tell(2, "work 1 takes 3;");
        tell(3, "tool 2 man 0 work 0 from 63 for 3;");
        x.hours(2);
        tell(1, "like today*100+served;");
        is("today 1, served 2", x.tells(2, 0, 2), 102);
    }

    // promise 14
    private static void of() {
        yard();
        is("of(0, -1)", x.of(0, -1), -2);
        is("of(0, 12)", x.of(0, 12), -2);
        is("of(3, 0)", x.of(3, 0), -2);
        is("of(-1, 0)", x.of(-1, 0), -2);
        is("of(2, 0)", x.of(2, 0), 1);
        is("of(2, 1)", x.of(2, 1), 2);
        is("of(1, 2)", x.of(1, 2), 1);
    }

    private static void power() {
        x = new ToolUnion();
        int[] votes = {4, 3, 2, 1};
        for (int i = 0; i < 4; i++) {
            x.tool(0, 0, 0);
            x.set(2, i, votes[i]);
        }
        x.set(6, 0, 6);
        int[] swings = {5, 3, 3, 1};
        int[] power = {10, 6, 6, 2};
        for (int i = 0; i < 4; i++) {
            is("of(" + i + ", 9)", x.of(i, 9), swings[i]);
            is("of(" + i + ", 10)", x.of(i, 10), power[i]);
        }
        x.set(6, 0, 11);
        is("no swings", x.of(0, 9), 0);
        is("no power", x.of(0, 10), 0);
        for (int i = 4; i < 8; i++) {
            x.tool(0, 0, 0);
        }
        x.set(6, 0, 1);
        is("swings of 8", x.of(0, 9), 1);
        is("power of 8", x.of(0, 10), 5040);
    }

    private static void mates() {
        yard();
        tell(1, "like skill when same=1;like 0-skill;");
        x.set(0, 1, 70);
        x.set(0, 2, 65);
        is("at(0, 2)", x.at(0, 2), 2);
        is("at(1, 2)", x.at(1, 2), 1);
        is("of(0, 11)", x.of(0, 11), -1);
        is("of(1, 11)", x.of(1, 11), 1);
        is("of(2, 11)", x.of(2, 11), 0);
        tell(1, "");
        is("alike: the lesser man", x.of(1, 11), 0);
        x.set(0, 2, 70);
        is("alike: the lesser tool", x.at(0, 2), 1);
        tell(0, "wont when skill=30;");
        is("whom none serves", x.at(1, 2), -1);
        tell(0, "wont when edge=70;");
        is("tool 0 alone", x.at(0, 2), 0);
        is("tool 0 alone", x.at(1, 2), -1);
        tell(0, "wont when kind=0;");
        is("one for two", x.of(2, 11), 0);
        is("one for two", x.at(1, 2), -1);
        is("one for two", x.of(0, 11), -1);
    }

    // promise 15
    private static void at() {
        yard();
        is("at(0, 0)", x.at(0, 0), 50);
        is("at(1, 1)", x.at(1, 1), 1);
        is("at(0, 3)", x.at(0, 3), -2);
        is("at(0, -1)", x.at(0, -1), -2);
        is("at(2, 0)", x.at(2, 0), -2);
        is("at(-1, 2)", x.at(-1, 2), -2);
    }

    // promise 16
    private static void work() {
        yard();
        tell(0, "wont when skill>40 and edge=60;");
        x.set(0, 0, 60);
        x.set(0, 1, 59);
        int[][] due = {{0, 2, 0, 0, 1, 0, 3, 0, 1}, {1, 1, 1, 0, 0, 0, 1, 2, 1}, {0, 1, 0, 0, 1, 0, 3, 0, 1}};
        for (int i = 0; i < 3; i++) {
            for (int what = 0; what < 9; what++) {
                is("work(" + i + ", " + what + ")", x.work(i, what), due[i][what]);
            }
        }
        tell(3, "tool 1 man 0 work 2 from 0 for 1;tool 0 man 1 work 0 from 0 for 2;");
        x.hours(1);
        is("done", x.work(2, 5), 1);
        is("not open, since done", x.work(2, 4), 0);
        is("not done", x.work(0, 5), 0);
        x.hours(1);
        is("open, since the first is done", x.work(1, 4), 1);
        x.strike(2, true);
        is("no hands", x.work(1, 6), 0);
        is("no hands", x.work(1, 7), -1);
        is("no hands", x.work(1, 8), -1);
        is("work(0, 9)", x.work(0, 9), -2);
        is("work(0, -1)", x.work(0, -1), -2);
        is("work(3, 0)", x.work(3, 0), -2);
        is("work(-1, 0)", x.work(-1, 0), -2);
    }

    // promise 17
    private static void serves() {
        yard();
        is("yes without a law", x.serves(0, 0), 1);
        is("no such tool", x.serves(3, 0), -1);
        is("no such man", x.serves(0, 2), -1);
        is("below none", x.serves(-1, 0), -1);
        is("below none", x.serves(0, -1), -1);
        tell(0, "wont when skill<40;will when skill<45;wont when skill<45;");
        is("the first line", x.serves(0, 1), 0);
        is("no line is so", x.serves(0, 0), 1);
        x.set(4, 1, 42);
        is("the second line", x.serves(0, 1), 1);
        x.set(3, 0, 0);
        is("a day off", x.serves(0, 0), 0);
        x.hours(8);
        is("another day", x.serves(0, 0), 1);
        x.hours(40);
        x.hours(8);
        is("a week later", x.serves(0, 0), 0);
        x.set(3, 0, 7);
        is("no day off", x.serves(0, 0), 1);
        x.set(0, 0, 1);
        is("an edge above 0", x.serves(0, 0), 1);
        x.set(0, 0, 0);
        is("no edge", x.serves(0, 0), 0);
    }

    // promise 18
    private static void tells() {
        yard();
        is("wear without a line", x.tells(0, 0, 0), 1);
        is("mood without a line", x.tells(0, 0, 1), 0);
        is("like without a line", x.tells(0, 0, 2), 0);
        tell(1, "wear 0-1 when skill=30;wear 21;mood 21 when skill=30;mood 0-21;like 1000 when skill=30;like 0-1000;wear 5;");
        is("wear", x.tells(0, 0, 0), 20);
        is("wear", x.tells(0, 1, 0), 0);
        is("mood", x.tells(0, 0, 1), -20);
        is("mood", x.tells(0, 1, 1), 20);
        is("like", x.tells(0, 0, 2), -999);
        is("like", x.tells(0, 1, 2), 999);
        is("what 3", x.tells(0, 0, 3), -1000);
        is("what -1", x.tells(0, 0, -1), -1000);
        is("no such tool", x.tells(3, 0, 0), -1000);
        is("no such man", x.tells(0, 2, 0), -1000);
        is("below none", x.tells(-1, -1, 0), -1000);
        tell(1, "wear 9 when skill=31;");
        is("wear without a line that is so", x.tells(0, 0, 0), 1);
    }

    // promise 19
    private static void book() {
        yard();
        x.hours(3);
        tell(3, "tool 1 man 1 work 2 from 3 for 1;tool 0 man 0 work 0 from 3 for 2;");
        x.hours(2);
        int[][] due = {{3, 1, 1, 2}, {3, 0, 0, 0}, {4, 0, 0, 0}};
        for (int i = 0; i < 3; i++) {
            for (int what = 0; what < 4; what++) {
                is("book(" + i + ", " + what + ")", x.book(i, what), due[i][what]);
            }
        }
        is("book(3, 0)", x.book(3, 0), -1);
        is("book(-1, 0)", x.book(-1, 0), -1);
        is("book(0, 4)", x.book(0, 4), -1);
        is("book(0, -1)", x.book(0, -1), -1);
        x = new ToolUnion();
        x.man(0, 0);
        x.man(0, 0);
        x.man(0, 0);
        x.man(0, 0);
        for (int i = 0; i < 4; i++) {
            x.tool(0, 0, 0);
        }
        tell(1, "wear 0;");
        for (int i = 0; i < 9; i++) {
            tell(2, "work 0 takes 3;".repeat(8));
            int from = x.look(3);
            for (int w = 0; w < 8; w += 4) {
                StringBuilder s = new StringBuilder();
                for (int j = 0; j < 4; j++) {
                    s.append("tool " + j + " man " + j + " work " + (w + j) + " from " + (from + w) + " for 3;");
                }
                tell(3, s.toString());
                x.hours(w == 0 ? 4 : 3);
            }
        }
        is("200 lines and no more", x.look(5), 200);
        is("hours are counted", x.of(0, 8), 54);
        is("the last line", x.book(199, 3), 199 % 24 < 12 ? 199 % 4 : 4 + 199 % 4);
        is("beyond it", x.book(200, 0), -1);
    }

    // promise 20
    private static void soonest() {
        x = new ToolUnion();
        is("no works", x.soonest(0), 0);
        is("no works", x.soonest(1), 0);
        yard();
        is("soonest(0)", x.soonest(0), 3);
        is("soonest(1)", x.soonest(1), 1);
        is("soonest(2)", x.soonest(2), -1);
        is("soonest(-1)", x.soonest(-1), -1);
        x.strike(2, true);
        is("no hands", x.soonest(0), -1);
        is("no hands", x.soonest(1), -1);
        x.strike(2, false);
        x.strike(1, true);
        // tool 0 alone for works 0 and 2: 0 0 2, with 1 beside 2
        is("one tool for two works", x.soonest(0), 3);
        is("the least first set", x.soonest(1), 1);
        tell(2, "work 0 takes 1;work 0 takes 2;work 1 takes 3 after 1;");
        is("the second one first", x.soonest(0), 5);
        is("the second one first", x.soonest(1), 2);
        x.strike(1, false);
        is("two tools", x.soonest(0), 5);
        is("the least set is enough", x.soonest(1), 2);
        tell(2, "work 0 takes 3;".repeat(8));
        is("8 works, two at once", x.soonest(0), 12);
        is("8 works, two at once", x.soonest(1), 3);
        tell(0, "wont when skill=50 and kind=0;");
        is("one man", x.soonest(0), 24);
        is("one man", x.soonest(1), 1);
        tell(2, "work 0 takes 3;");
        is("a work takes an hour an hour", x.soonest(0), 3);
        tell(3, "tool 0 man 1 work 0 from 0 for 3;");
        x.hours(2);
        is("what is done is done", x.soonest(0), 1);
        x.hours(1);
        is("all done", x.soonest(0) + x.soonest(1), 0);
    }

    // promise 21
    private static void few() {
        yard();
        is("few(0)", x.few(0), 1);
        is("few(1)", x.few(1), 4);
        is("few(2)", x.few(2), 2);
        is("few(3)", x.few(3), 5);
        is("few(4)", x.few(4), -1);
        is("few(-1)", x.few(-1), -1);
        x.strike(0, true);
        is("two sets alike: the least", x.few(1), 2);
        is("keep", x.few(3), 6);
        x.strike(2, true);
        is("already so", x.few(0), 0);
        is("already so", x.few(1), 0);
        is("some has no hands", x.few(2), -1);
        is("some has no hands", x.few(3), -1);
        tell(2, "work 0 takes 1;");
        x.strike(0, false);
        is("two tools stop it", x.few(0), 2);
        is("two tools stop it", x.few(1), 3);
        is("one keeps it", x.few(3), 1);
        tell(2, "");
        is("no work is left", x.few(0), -1);
        is("no work is left", x.few(1), -1);
        is("nothing to keep", x.few(2), 0);
        is("nothing to keep", x.few(3), 0);
    }

    // promise 22
    private static void changes() {
        yard();
        x.tool(1, 1, 0);
        is("none", x.changes(0), 0);
        is("none of 0", x.changes(10), -1);
        x.may(2, 1, false);
        is("the other branch does", x.changes(0), 0);
        x.may(1, 1, false);
        is("changes(0)", x.changes(0), 1);
        is("the least branch", x.changes(11), 1);
        is("changes(10)", x.changes(10), -1);
        is("changes(13)", x.changes(13), -1);
        x.may(0, 0, false);
        x.may(1, 0, false);
        is("two", x.changes(0), 2);
        is("of kind 0", x.changes(10), 0);
        x.strike(1, true);
        is("not one that strikes", x.changes(11), 2);
        is("nothing stays", x.look(22), 13);
        x.set(0, 2, 0);
        is("they can't be", x.changes(0), -1);
        is("they can't be", x.changes(10), -1);
        is("changes(1)", x.changes(1), -1);
        is("changes(9)", x.changes(9), -1);
        is("changes(14)", x.changes(14), -1);
        is("changes(-1)", x.changes(-1), -1);
    }

    // promise 23
    private static void vote() {
        yard();
        x.set(2, 0, 3);
        x.set(2, 1, 2);
        x.set(2, 2, 2);
        x.set(6, 0, 5);
        is("vote(3)", x.vote(3), 1);
        is("vote(6)", x.vote(6), 0);
        is("vote(7)", x.vote(7), 1);
        is("vote(0)", x.vote(0), 0);
        is("vote(8)", x.vote(8), -1);
        is("vote(-1)", x.vote(-1), -1);
        is("vote(256)", x.vote(256), -1);
    }

    // promise 24
    private static void lasts() {
        yard();
        is("60 hours", x.lasts(0, 0), 60);
        x.set(0, 0, 99);
        is("99 hours", x.lasts(0, 0), 99);
        tell(1, "wear 0 when today=3;wear 1;");
        is("99 are not enough", x.lasts(0, 0), -1);
        x.set(0, 0, 0);
        is("no edge", x.lasts(0, 0), 0);
        x.set(0, 0, 60);
        x.strike(0, true);
        x.set(3, 0, 0);
        tell(1, "wear 20 when served=2;wear 10;");
        is("who serves is not asked", x.lasts(0, 0), 5);
        tell(1, "wear moods/10;mood 20 when edge>40;mood 0-5;");
        // 60 50, 55 70, 48 90, 39 99, 30 94, 21 89, 13 84, 5 79, 0
        is("edge and mood as they would be", x.lasts(0, 0), 8);
        is("nothing stays", x.of(0, 3), 60);
        is("no such tool", x.lasts(3, 0), -1);
        is("no such man", x.lasts(0, 2), -1);
        is("below none", x.lasts(-1, 0), -1);
        tell(1, "wear 20 when bell=0;wear 1;");
        is("the bell as now", x.lasts(0, 0), 3);
    }

    // promise 25
    private static void runs() {
        yard();
        x.hours(2);
        tell(3, "tool 0 man 0 work 0 from 3 for 3;tool 1 man 0 work 2 from 4 for 1;tool 2 man 1 work 1 from 5 for 1;");
        is("runs(1, 0)", x.runs(1, 0), 0);
        is("runs(1, 2)", x.runs(1, 2), -1);
        is("runs(1, 3)", x.runs(1, 3), -1);
        is("runs(4, 0)", x.runs(4, 0), 3);
        is("runs(4, 1)", x.runs(4, 1), 2);
        is("runs(99, 1)", x.runs(99, 1), 2);
        is("runs(4, 2)", x.runs(4, 2), 4);
        is("runs(4, 3)", x.runs(4, 3), 1);
        is("runs(0, 0)", x.runs(0, 0), -1);
        is("runs(100, 0)", x.runs(100, 0), -1);
        is("runs(1, 4)", x.runs(1, 4), -1);
        is("runs(1, -1)", x.runs(1, -1), -1);
        is("nothing stays", x.look(3), 2);
        is("nothing stays", x.look(5), 0);
        is("nothing stays", x.work(0, 3), 0);
    }

    // promise 26
    private static void idle() {
        yard();
        tell(3, "tool 0 man 0 work 0 from 0 for 2;tool 2 man 0 work 1 from 2 for 1;tool 1 man 0 work 2 from 0 for 1;");
        is("idle(1)", x.idle(1), 6);
        is("idle(2)", x.idle(2), 6);
        is("idle(3)", x.idle(3), 2);
        is("idle(99)", x.idle(99), 2);
        tell(3, "");
        is("nobody works", x.idle(5), 7);
        is("idle(0)", x.idle(0), -1);
        is("idle(100)", x.idle(100), -1);
        is("idle of nobody", new ToolUnion().idle(1), 0);
    }

    // promise 27
    private static void dull() {
        yard();
        tell(1, "wear 20;");
        tell(2, "work 0 takes 3;work 0 takes 3;");
        tell(3, "tool 0 man 0 work 0 from 2 for 9;");
        x.set(5, 0, 1000);
        is("dull(0, 5)", x.dull(0, 5), 5);
        is("dull(0, 4)", x.dull(0, 4), -1);
        is("dull(0, 99)", x.dull(0, 99), 5);
        is("dull(1, 99)", x.dull(1, 99), -1);
        is("dull(0, 100)", x.dull(0, 100), -1);
        is("dull(0, -1)", x.dull(0, -1), -1);
        is("dull(3, 1)", x.dull(3, 1), -1);
        is("dull(-1, 1)", x.dull(-1, 1), -1);
        x.set(0, 1, 0);
        is("dull(1, 0)", x.dull(1, 0), 0);
        is("dull(0, 0)", x.dull(0, 0), -1);
    }

    // promise 28
    private static void loved() {
        yard();
        is("alike: the lesser number", x.loved(), 0);
        x.set(0, 2, 61);
        is("the sharpest", x.loved(), 2);
        tell(0, "will when same=1;wont;");
        x.set(0, 0, 62);
        x.set(0, 1, 61);
        is("one man each: the least", x.loved(), 0);
        x.set(0, 0, 60);
        is("of those that serve them", x.loved(), 1);
        x.man(40, 0);
        is("most men", x.loved(), 2);
        tell(0, "wont;");
        is("nobody likes one", x.loved(), -1);
    }

    // promise 29
    private static void ready() {
        yard();
        is("not by then", x.ready(), -1);
        x.hours(1);
        tell(3, "tool 0 man 0 work 0 from 1 for 2;tool 1 man 1 work 2 from 1 for 1;tool 2 man 0 work 1 from 99 for 1;");
        is("ready()", x.ready(), 100);
        tell(3, "tool 0 man 0 work 0 from 1 for 2;tool 1 man 1 work 2 from 1 for 1;tool 2 man 0 work 1 from 100 for 1;");
        is("too late", x.ready(), -1);
        x.hours(1);
        is("an hour later", x.ready(), 101);
        tell(2, "");
        is("no works", x.ready(), 2);
    }

    // promise 30
    private static void seen() {
        yard();
        is("seen(0, 1)", x.seen(0, 1), 1);
        is("seen(1, 1)", x.seen(1, 1), -1);
        is("seen(0, 3)", x.seen(0, 3), -1);
        is("seen(3, 0)", x.seen(3, 0), -1);
        is("seen(0, -1)", x.seen(0, -1), -1);
        is("seen(-2, 0)", x.seen(-2, 0), -1);
        is("the same couple", x.seen(0, 1), 2);
        for (int i = 3; i <= 12; i++) {
            is("seen(2, 1)", x.seen(2, 1), i);
        }
        is("a thirteenth", x.seen(2, 0), -1);
        is("look(11)", x.look(11), 12);
        is("seen(-1, 99)", x.seen(-1, 99), 0);
        is("look(11)", x.look(11), 0);
    }

    // promise 31
    private static void orders() {
        yard();
        is("orders(0)", x.orders(0), 3);
        is("orders(10)", x.orders(10), 0);
        is("orders(11)", x.orders(11), 1);
        is("orders(12)", x.orders(12), 2);
        is("orders(13)", x.orders(13), -1);
        is("orders(9)", x.orders(9), -1);
        is("orders(1)", x.orders(1), -1);
        is("orders(-1)", x.orders(-1), -1);
        x.seen(2, 0);
        is("orders(0)", x.orders(0), 1);
        is("orders(10)", x.orders(10), 2);
        is("orders(12)", x.orders(12), 1);
        x.seen(1, 2);
        is("none", x.orders(0), 0);
        is("none", x.orders(10), -1);
        tell(2, "work 0 takes 1;".repeat(8));
        is("8 works", x.orders(0), 40320);
        is("8 works", x.orders(17), 7);
        is("orders(18)", x.orders(18), -1);
        is("no works", new ToolUnion().orders(0), 1);
        is("no works", new ToolUnion().orders(10), -1);
    }

    // promise 32
    private static void undo() {
        yard();
        x.state(5);
        x.set(5, 0, 500);
        tell(3, "tool 0 man 0 work 0 from 0 for 2;");
        x.hours(2);
        x.mend(0, false);
        x.mend(0, true);
        x.strike(1, true);
        x.may(1, 2, false);
        is("look(10)", x.look(10), 6);
        is("undo()", x.undo(), true);
        is("may", x.look(21), 15);
        x.undo();
        is("strikes", x.look(4), 0);
        x.undo();
        is("mood", x.of(0, 4), 45);
        x.undo();
        is("edge", x.of(0, 3), 58);
        is("mood", x.of(0, 4), 50);
        int after = x.look(6);
        x.undo();
        is("hour", x.look(3), 1);
        is("book", x.look(5), 1);
        is("state", after == x.look(6), false);
        is("work", x.work(0, 3), 1);
        is("edge", x.of(0, 3), 59);
        is("today", x.of(0, 7), 1);
        x.undo();
        is("all back", x.look(3) + x.look(5) + x.work(0, 3) + x.of(0, 7) + x.of(0, 8), 0);
        is("state", x.look(6), 5);
        is("edge of 2", x.of(2, 3), 60);
        is("undo()", x.undo(), false);
        x.hours(9);
        is("6 are kept", x.look(10), 6);
        for (int i = 0; i < 6; i++) {
            is("undo()", x.undo(), true);
        }
        is("undo()", x.undo(), false);
        is("three hours stay", x.look(3), 3);
        is("what was refused is not kept", x.strike(0, false), false);
        is("look(10)", x.look(10), 0);
    }

    private static void undoForgets() {
        yard();
        x.mend(0, false);
        tell(0, "will;");
        tell(1, "wear 2;");
        tell(2, "fault");
        tell(3, "fault");
        x.seen(0, 1);
        x.seen(-1, 0);
        x.seen(0, 1);
        x.image(true);
        x.set(0, 0, 100);
        x.tool(9, 9, 9);
        x.man(0, 9);
        x.hours(0);
        is("laws, what was seen, an image and what can't be forget nothing", x.look(10), 1);
        x.undo();
        is("laws stay", x.look(7), 1);
        is("what was seen stays", x.look(11), 1);
        is("edge", x.of(0, 3), 60);
        for (int i = 0; i < 8; i++) {
            x.mend(0, true);
            is("look(10)", x.look(10), 1);
            switch (i) {
                case 0:
                    x.state(0);
                    break;
                case 1:
                    x.tool(0, 0, 0);
                    break;
                case 2:
                    x.man(0, 0);
                    break;
                case 3:
                    x.set(5, 0, 0);
                    break;
                case 4:
                    tell(2, "work 0 takes 1;");
                    break;
                case 5:
                    tell(3, "");
                    break;
                case 6:
                    x.set(2, 0, 1);
                    break;
                default:
                    x.image(false);
                    break;
            }
            is("forgotten by " + i, x.look(10), 0);
        }
    }

    // promise 33
    private static void image() {
        yard();
        is("image(false)", x.image(false), false);
        tell(0, "wont when skill=30;");
        tell(1, "wear 3;");
        tell(3, "tool 0 man 0 work 0 from 0 for 3;");
        x.seen(0, 2);
        x.hours(1);
        x.state(9);
        x.mend(1, true);
        is("image(true)", x.image(true), true);
        is("look(10)", x.look(10), 1);
        for (int i = 0; i < 2; i++) {
            x.tool(3, 3, 1);
            x.man(9, 1);
            x.set(5, 0, 7);
            x.set(6, 0, 7);
            x.set(2, 0, 7);
            x.set(3, 1, 4);
            x.set(4, 0, 1);
            tell(0, "");
            tell(1, "");
            x.hours(2);
            x.strike(3, true);
            x.may(2, 2, false);
            x.state(77);
            tell(2, "work 3 takes 1;");
            tell(0, "fault");
            Due.feed(x, "will;");
            is("image(false)", x.image(false), true);
            is("the tape stays", x.end(5), true);
            is("fault() stays", x.fault(0), 1);
            is("the tape stays", x.text(0), 1);
            is("nothing can be undone", x.undo(), false);
            int[] due = {3, 2, 3, 1, 0, 1, 9, 1, 1, 1, 0, 1, 0, 1};
            for (int what = 0; what < due.length; what++) {
                is("look(" + what + ") in the image", x.look(what), due[what]);
            }
            is("may", x.look(22), 15);
            is("votes", x.of(0, 5), 1);
            is("off", x.of(1, 6), 7);
            is("mood", x.of(1, 4), 60);
            is("edge", x.of(0, 3), 57);
            is("skill", x.at(0, 0), 50);
            is("work", x.work(0, 3), 1);
            is("the law of edges", x.tells(0, 0, 0), 3);
            is("book", x.book(0, 3), 0);
            is("orders", x.orders(0), 2);
            is("refused", x.runs(3, 1), 1);
        }
        x.image(false);
        is("the law of serving, too", x.serves(0, 1), 0);
        x.set(0, 0, 5);
        x.image(true);
        x.set(0, 0, 6);
        x.image(false);
        is("taken anew", x.of(0, 3), 5);
    }

    /** What stands where the image had something else must go back, too. */
    private static void imageOfRows() {
        yard();
        tell(3, "tool 0 man 0 work 0 from 0 for 1;tool 1 man 1 work 2 from 0 for 1;");
        x.seen(0, 1);
        x.seen(2, 1);
        x.hours(1);
        x.image(true);
        is("an image forgets nothing", x.undo(), true);
        tell(2, "work 0 takes 1;work 1 takes 3;work 1 takes 2 after 1;");
        tell(3, "tool 2 man 1 work 1 from 0 for 1;");
        x.hours(1);
        x.seen(1, 2);
        x.seen(1, 2);
        is("book", x.book(0, 1), 2);
        x.image(false);
        is("book", x.book(0, 1) + 10 * x.book(0, 2) + 100 * x.book(0, 3), 0);
        is("book", x.book(1, 1) + 10 * x.book(1, 2) + 100 * x.book(1, 3), 211);
        is("orders", x.orders(0), 2);
        is("the first", x.orders(11), 2);
        is("takes", x.work(0, 1), 2);
        is("after", x.work(1, 2), 1);
        is("kind", x.work(2, 0), 0);
        is("rota", x.runs(1, 1), 0);
    }

    // promise 34
    private static void look() {
        yard();
        is("look(-1)", x.look(-1), -1);
        is("look(14)", x.look(14), -1);
        is("look(19)", x.look(19), -1);
        is("look(24)", x.look(24), -1);
        x.state(-1);
        is("a state as it is", x.look(6), -1);
        is("look(2)", x.look(2), 3);
        x.may(3, 0, false);
        is("look(23)", x.look(23), 14);
        is("look(20)", x.look(20), 15);
    }

    /** No call may throw, whatever it is given, in a yard and in an empty one. */
    private static void wildCalls() {
        int[] wild = {Integer.MIN_VALUE, -1000, -2, -1, 0, 1, 7, 8, 11, 17, 31, 32, 99, 255, 400, 401, Integer.MAX_VALUE};
        for (int round = 0; round < 2; round++) {
            if (round == 0) {
                x = new ToolUnion();
            }
            for (int a : wild) {
                x.state(a);
                x.hours(a);
                x.end(a);
                x.text(a);
                x.fault(a);
                x.soonest(a);
                x.few(a);
                x.changes(a);
                x.vote(a);
                x.idle(a);
                x.orders(a);
                x.look(a);
                for (int b : wild) {
                    x.mend(a, b > 0);
                    x.strike(a, b > 0);
                    x.man(a, b);
                    x.of(a, b);
                    x.at(a, b);
                    x.work(a, b);
                    x.serves(a, b);
                    x.book(a, b);
                    x.lasts(a, b);
                    x.runs(a, b);
                    x.dull(a, b);
                    x.seen(a, b);
                    for (int c : wild) {
                        x.tool(a, b, c);
                        x.set(a, b, c);
                        x.may(a, b, c > 0);
                        x.tells(a, b, c);
                        x.feed(a, b, c, a, b);
                    }
                }
            }
            yard();
        }
        is("it stands still", x.look(0), 3);
    }
}
