/** For each sentence of the document's Terms, parts 0 to 3 (0: ahead of part 1), a test of its own, at its bounds. */
final class BoundsOfTermsTest extends Bounds {
    private static final String DRAWS = "Terms 0";
    private static final String YARD = "Terms 1";
    private static final String TEXTS = "Terms 2";
    private static final String HOURS = "Terms 3";

    private BoundsOfTermsTest() {
    }

    public static void main(String[] args) throws java.io.IOException {
        Doc.read(args[0]);
        draws();
        tools();
        menAndHours();
        setsAndSums();
        works();
        grammarOfLaws();
        grammarOfHullAndRota();
        tokens();
        faults();
        faultsOfTooMuch();
        facts();
        serving();
        telling();
        rotaByHours();
        worksOfAnHour();
        rust();
        nextHour();
        theBook();
        mending();
        Doc.allOf("Terms 0", "Terms 1", "Terms 2", "Terms 3");
        Due.finish("BoundsOfTermsTest");
    }

    // ---- Terms, ahead of part 1 ----

    private static void draws() {
        Doc.of(DRAWS, "Quotients go downwards.");
        yard();
        goTo(7);
        is("weekday of hour 7", likes("weekday"), 0);
        goTo(8);
        is("weekday of hour 8", likes("weekday"), 1);

        Doc.of(DRAWS, "STATE of draws (an int, 0 at first)");
        fresh();
        is("look(6)", x.look(6), 0);
        is("state(least)", x.state(Integer.MIN_VALUE), 0);
        is("state(greatest)", x.state(Integer.MAX_VALUE), Integer.MIN_VALUE);
        is("look(6)", x.look(6), Integer.MAX_VALUE);

        Doc.of(DRAWS, "a DRAW of m: it becomes 1664525 times itself + 1013904223 (ints, which wrap)");
        int[] from = {0, 1, -1, 1000, Integer.MAX_VALUE, Integer.MIN_VALUE};
        int[] to = {1013904223, 1015568748, 1012239698, -1616538073, -1135243950, -1133579425};
        for (int i = 0; i < from.length; i++) {
            is("look(6) after a draw from " + from[i], stateAfterADraw(from[i], 1), to[i]);
        }

        Doc.of(DRAWS, "then it is its highest 24 bits (without sign) modulo m.");
        // 1000 becomes 2678429223 without a sign: its highest bits are 10462614
        int[] draw = {563, 65, 61, 614, 669, 171};
        for (int i = 0; i < from.length; i++) {
            stateAfterADraw(from[i], draw[i]);
            is("edge, if the draw is no less than rust", x.of(0, 3), 60);
            stateAfterADraw(from[i], draw[i] + 1);
            is("edge, if the draw is one below rust", x.of(0, 3), 59);
        }
    }

    private static int stateAfterADraw(int from, int rust) {
        fresh();
        x.tool(0, 0, 0);
        x.state(from);
        x.set(5, 0, rust);
        x.hours(1);
        return x.look(6);
    }

    // ---- part 1 ----

    private static void tools() {
        Doc.of(YARD, "TOOLS 0 .. 7 as they come: ");
        fresh();
        for (int i = 0; i < 8; i++) {
            is("a tool", x.tool(0, 0, 0), i);
        }
        is("a ninth tool", x.tool(0, 0, 0), -1);
        is("look(0)", x.look(0), 8);

        Doc.of(YARD, "KIND 0 .. 3, BRANCH 0 .. 3, LEFT 0, 1; ");
        fresh();
        is("tool(0, 0, 0)", x.tool(0, 0, 0), 0);
        is("tool(3, 3, 1)", x.tool(3, 3, 1), 1);
        is("its kind, branch, left", 100 * x.of(1, 0) + 10 * x.of(1, 1) + x.of(1, 2), 331);
        int[][] wrong = {{4, 0, 0}, {-1, 0, 0}, {0, 4, 0}, {0, -1, 0}, {0, 0, 2}, {0, 0, -1}};
        for (int[] w : wrong) {
            is("tool beyond its bounds", x.tool(w[0], w[1], w[2]), -1);
        }

        int[] first = {60, 50, 1, 7};
        int[] most = {99, 99, 9, 7};
        String[] words = {"EDGE 0 .. 99 (60 at first)", "MOOD 0 .. 99 (50)", "VOTES 0 .. 9 (1)",
            "OFF: a weekday 0 .. 6 or none (7, at first)"};
        for (int what = 0; what < 4; what++) {
            Doc.of(YARD, words[what]);
            yard();
            is("at first", x.of(0, 3 + what), first[what]);
            is("the least", x.set(what, 0, 0), true);
            is("below it", x.set(what, 0, -1), false);
            is("it is", x.of(0, 3 + what), 0);
            is("the most", x.set(what, 0, most[what]), true);
            is("above it", x.set(what, 0, most[what] + 1), false);
            is("it is", x.of(0, 3 + what), most[what]);
        }
        dayOff();

        Doc.of(YARD, "TODAY: hours in which it worked this day, HOURS: in all (0 each).");
        crew(2, "work 0 takes 3;work 0 takes 3;", 2);
        is("at first", x.of(0, 7) + x.of(0, 8), 0);
        tell(3, "tool 0 man 0 work 0 from 6 for 3;");
        goTo(8);
        is("two hours, and another day", 10 * x.of(0, 7) + x.of(0, 8), 2);
        goTo(9);
        is("the third one", 10 * x.of(0, 7) + x.of(0, 8), 13);
        is("the other one", x.of(1, 7) + x.of(1, 8), 0);
    }

    private static void dayOff() {
        yard();
        x.set(3, 0, 6);
        x.set(3, 1, 0);
        for (int day = 0; day < 8; day++) {
            goTo(8 * day);
            is("off at day 6", x.serves(0, 0), day == 6 ? 0 : 1);
            is("off at day 0", x.serves(1, 0), day % 7 == 0 ? 0 : 1);
            is("none off", x.serves(2, 0), 1);
        }
    }

    private static void menAndHours() {
        Doc.of(YARD, "MEN 0 .. 3 as they come: SKILL 0 .. 99, LEFT 0, 1.");
        fresh();
        is("skill above its bounds", x.man(100, 0), -1);
        is("skill below its bounds", x.man(-1, 0), -1);
        is("left above its bounds", x.man(0, 2), -1);
        is("left below its bounds", x.man(0, -1), -1);
        for (int i = 0; i < 4; i++) {
            is("a man", x.man(i == 3 ? 99 : 0, i & 1), i);
        }
        is("a fifth man", x.man(0, 0), -1);
        is("look(1)", x.look(1), 4);
        is("the last one", 10 * x.at(3, 0) + x.at(3, 1), 991);

        Doc.of(YARD, "HOUR 0 .. 9999 (0 at first): ");
        yard();
        is("look(3)", x.look(3), 0);
        goTo(9999);
        is("look(3)", x.look(3), 9999);
        is("hours(1)", x.hours(1), -1);
        is("look(3)", x.look(3), 9999);

        Doc.of(YARD, "bell: HOUR modulo 8; DAY: HOUR by 8; weekday: DAY modulo 7.");
        yard();
        int[] hour = {0, 1, 7, 8, 55, 56, 63, 64, 9999};
        int[] due = {0, 10, 70, 1, 76, 0, 70, 1, 73};
        for (int i = 0; i < hour.length; i++) {
            goTo(hour[i]);
            is("bell and weekday of hour " + hour[i], likes("bell*10+weekday"), due[i]);
        }
    }

    private static void setsAndSums() {
        Doc.of(YARD, "STRIKES: a set of BRANCHES (none at first).");
        fresh();
        is("look(4)", x.look(4), 0);
        for (int branch = 0; branch < 4; branch++) {
            x.strike(branch, true);
            is("look(4)", x.look(4), (2 << branch) - 1);
        }
        x.strike(0, false);
        is("look(4)", x.look(4), 14);

        Doc.of(YARD, "MAY of a BRANCH: a set of KINDS (all four at first).");
        fresh();
        for (int branch = 0; branch < 4; branch++) {
            is("look of may", x.look(20 + branch), 15);
        }
        for (int kind = 0; kind < 4; kind++) {
            x.may(kind, kind, false);
            is("look of may", x.look(20 + kind), 15 - (1 << kind));
        }

        Doc.of(YARD, "RUST 0 .. 1000 (0 at first).");
        fresh();
        is("look(12)", x.look(12), 0);
        is("the most", x.set(5, 0, 1000), true);
        is("above it", x.set(5, 0, 1001), false);
        is("below the least", x.set(5, 0, -1), false);
        is("look(12)", x.look(12), 1000);
        is("the least", x.set(5, 0, 0), true);
        is("look(12)", x.look(12), 0);

        Doc.of(YARD, "QUOTA 1 .. 80 (1 at first).");
        fresh();
        is("look(13)", x.look(13), 1);
        is("the most", x.set(6, 0, 80), true);
        is("above it", x.set(6, 0, 81), false);
        is("below the least", x.set(6, 0, 0), false);
        is("look(13)", x.look(13), 80);
        is("the least", x.set(6, 0, 1), true);
        is("look(13)", x.look(13), 1);
    }

    private static void works() {
        Doc.of(YARD, "WORKS 0 .. 7 (none at first): KIND, ");
        fresh();
        is("look(2)", x.look(2), 0);
        is("eight", tell(2, "work 0 takes 1;".repeat(7) + "work 3 takes 1;"), 8);
        is("kind of the last one", x.work(7, 0), 3);
        is("a ninth one", x.work(8, 0), -2);

        Doc.of(YARD, "TAKES 1 .. 3 hours, ");
        is("1 and 3", tell(2, "work 0 takes 1;work 0 takes 3;"), 2);
        is("1 and 3", 10 * x.work(0, 1) + x.work(1, 1), 13);
        fault(2, "work 0 takes 0;", 2, 13);
        fault(2, "work 0 takes 4;", 2, 13);

        Doc.of(YARD, "AFTER: a set of lesser WORKS; ");
        is("all lesser ones", tell(2, "work 0 takes 1;work 0 takes 1 after 0;work 0 takes 1 after 1 after 0 after 1;"), 3);
        is("none", x.work(0, 2), 0);
        is("one", x.work(1, 2), 1);
        is("two, one of them twice", x.work(2, 2), 3);

        Doc.of(YARD, "hours that are done of it.");
        crew(1, "work 0 takes 2;", 1);
        tell(3, "tool 0 man 0 work 0 from 0 for 9;");
        for (int hour = 0; hour < 3; hour++) {
            is("hours done", x.work(0, 3), hour);
            x.hours(1);
        }
        is("no more than it takes", x.work(0, 3), 2);

        Doc.of(YARD, "It is DONE, if these are TAKES; ");
        crew(1, "work 0 takes 2;", 1);
        tell(3, "tool 0 man 0 work 0 from 0 for 2;");
        x.hours(1);
        is("one hour less", x.work(0, 5), 0);
        x.hours(1);
        is("all hours", x.work(0, 5), 1);

        Doc.of(YARD, "OPEN, if it is not, but all that it is AFTER are.");
        crew(2, "work 0 takes 1;work 0 takes 2;work 0 takes 1 after 0 after 1;", 3);
        tell(3, "tool 0 man 0 work 0 from 0 for 1;tool 1 man 1 work 1 from 0 for 2;");
        is("after none", x.work(0, 4), 1);
        is("after two", x.work(2, 4), 0);
        x.hours(1);
        is("done", x.work(0, 4), 0);
        is("begun", x.work(1, 4), 1);
        is("after one that is done and one that is not", x.work(2, 4), 0);
        x.hours(1);
        is("after two that are done", x.work(2, 4), 1);
    }

    // ---- part 2 ----

    private static void grammarOfLaws() {
        Doc.of(TEXTS, "TEXTS (empty at first).");
        fresh();
        is("look(7), look(8), look(2), look(9)", x.look(7) + x.look(8) + x.look(2) + x.look(9), 0);

        Doc.of(TEXTS, "0 THE LAW OF SERVING = {(will | wont) [when B] ;}, ");
        yard();
        is("no line", tell(0, ""), 0);
        is("lines with and without when", tell(0, "will;wont;will when 1=1;wont when 1=1;"), 4);
        fault(0, "wear 1;", 1, 0);
        fault(0, "when 1=1;", 1, 0);
        fault(0, ";", 1, 0);
        fault(0, "will will;", 1, 5);
        fault(0, "will when;", 1, 9);
        fault(0, "will when 1=1 when 1=1;", 1, 14);
        fault(0, "will;;", 1, 5);

        Doc.of(TEXTS, "1 THE LAW OF EDGES = {(wear | mood | like) E [when B] ;}.");
        is("no line", tell(1, ""), 0);
        is("lines with and without when", tell(1, "wear 1;mood 1;like 1;wear 1 when 1=1;mood 1 when 1=1;like 1 when 1=1;"), 6);
        fault(1, "will;", 1, 0);
        fault(1, "moods 1;", 1, 0);
        fault(1, "when 1;", 1, 0);
        fault(1, "wont;", 1, 0);
        fault(1, "wear;", 1, 4);
        fault(1, "wear when 1=1;", 1, 5);
        fault(1, "wear 1 2;", 1, 7);

        Doc.of(TEXTS, "B = A {or A}.");
        is("none is so", servesWhen("1=2 or 1=2 or 1=2"), 0);
        is("the first is so", servesWhen("1=1 or 1=2 or 1=2"), 1);
        is("the last is so", servesWhen("1=2 or 1=2 or 1=1"), 1);
        fault(0, "will when 1=1 or;", 1, 16);
        fault(0, "will when or 1=1;", 1, 10);

        Doc.of(TEXTS, "A = C {and C}.");
        is("all are so", servesWhen("1=1 and 1=1 and 1=1"), 1);
        is("the first is not", servesWhen("1=2 and 1=1 and 1=1"), 0);
        is("the last is not", servesWhen("1=1 and 1=1 and 1=2"), 0);
        is("and binds more than or ahead of it", servesWhen("1=1 or 1=1 and 1=2"), 1);
        is("and binds more than or behind it", servesWhen("1=2 and 1=2 or 1=1"), 1);
        fault(0, "will when 1=1 and;", 1, 17);

        Doc.of(TEXTS, "C = E (< | = | >) E | not C | ( B ).");
        String[] tests = {"1<2", "2<2", "3<2", "1=2", "2=2", "3=2", "1>2", "2>2", "3>2", "not 1=2", "not 1=1",
            "not not 1=1", "not 1=2 or 1=1", "not (1=2 or 1=1)", "not 1=1 and 1=2", "not (1=1 and 1=2)", "(1=1 or 1=1) and 1=2"};
        int[] so = {1, 0, 0, 0, 1, 0, 0, 0, 1, 1, 0, 1, 1, 0, 0, 1, 0};
        for (int i = 0; i < tests.length; i++) {
            is("serves, if it will when " + tests[i], servesWhen(tests[i]), so[i]);
        }
        fault(0, "will when ();", 1, 11);
        fault(0, "will when 1;", 1, 11);
        fault(0, "will when 1=1=1;", 1, 13);
        fault(0, "will when not;", 1, 13);
        fault(0, "will when (1=1;", 1, 14);
        fault(0, "will when 1=1);", 1, 13);

        Doc.of(TEXTS, "E = T {(+ | -) T}.");
        is("from the left", likes("9-4-3"), 2);
        is("from the left", likes("9-4+3"), 8);
        is("a product ahead and behind", likes("2*3+4*5-6*2"), 14);
        fault(1, "like 1+;", 1, 7);
        fault(1, "like -1;", 1, 5);
        fault(1, "like 1--1;", 1, 7);

        Doc.of(TEXTS, "T = U {* U | / NUMBER}.");
        is("from the left", likes("20/3*3"), 18);
        is("from the left", likes("20*3/7"), 8);
        is("from the left", likes("100/5/4"), 5);
        fault(1, "like 4/edge;", 1, 7);
        fault(1, "like 4/(2);", 1, 7);
        fault(1, "like 4*;", 1, 7);

        Doc.of(TEXTS, "U = NUMBER | skill | edge | moods | today | kind | same | branch | bell | weekday | served.");
        is("the least number", likes("0"), 0);
        is("the greatest number", likes("9999-9990"), 9);
        is("each word", tell(1, "like skill+edge+moods+today+kind+same+branch+bell+weekday+served;"), 1);
        fault(1, "like mood;", 1, 5);
        fault(1, "like (1);", 1, 5);
        fault(1, "like hour;", 1, 5);
    }

    private static void grammarOfHullAndRota() {
        Doc.of(TEXTS, "2 A HULL = {work KIND takes N {after WORK} ;} (KIND 0 .. 3; WORK: a lesser number than its own.) ");
        yard();
        is("no work", tell(2, ""), 0);
        is("the least and the greatest kind", tell(2, "work 0 takes 1;work 3 takes 1;"), 2);
        fault(2, "work 4 takes 1;", 2, 5);
        fault(2, "work 0 takes 1 after 0;", 2, 21);
        fault(2, "work 0 takes 1;work 0 takes 1 after 1;", 2, 36);
        is("the number below its own", tell(2, "work 0 takes 1;work 0 takes 1 after 0;"), 2);
        fault(2, "work 0 takes 1 after;", 1, 20);
        fault(2, "work 0;", 1, 6);
        fault(2, "work takes 1;", 1, 5);
        fault(2, "work 0 takes after 0;", 1, 13);

        Doc.of(TEXTS, "Told anew nothing is done of it.");
        crew(1, "work 0 takes 2;", 1);
        tell(3, "tool 0 man 0 work 0 from 0 for 1;");
        x.hours(1);
        is("an hour", x.work(0, 3), 1);
        tell(2, "work 0 takes 2;work 0 takes 1;");
        is("told anew", x.work(0, 3) + x.work(1, 3), 0);

        Doc.of(TEXTS, "3 A ROTA = {tool TOOL man MAN work WORK from HOUR for N ;} "
            + "(TOOL, MAN, WORK: such as there are, HOUR 0 .. 9999, N 1 .. 99.) ");
        yard();
        is("no line", tell(3, ""), 0);
        is("the least", tell(3, "tool 0 man 0 work 0 from 0 for 1;"), 1);
        is("the greatest", tell(3, "tool 2 man 1 work 2 from 9999 for 99;"), 1);
        fault(3, "tool 3 man 0 work 0 from 0 for 1;", 2, 5);
        fault(3, "tool 0 man 2 work 0 from 0 for 1;", 2, 11);
        fault(3, "tool 0 man 0 work 3 from 0 for 1;", 2, 18);
        fault(3, "tool 0 man 0 work 0 from 0 for 0;", 2, 31);
        fault(3, "tool 0 man 0 work 0 from 0 for 100;", 2, 31);
        fault(3, "tool 0 man 0 work 0 from 10000 for 1;", 1, 25);
        fault(3, "tool 0 man 0 work 0 for 1 from 0;", 1, 20);
        fault(3, "tool 0 man 0 work 0 from 0;", 1, 26);
        is("the rota stays", x.look(9), 1);
        tell(3, "tool 0 man 0 work 0 from 0 for 1;tool 0 man 0 work 1 from 0 for 1;tool 0 man 0 work 1 from 0 for 1;");
        is("three lines, two are refused", x.runs(1, 1), 2);
        tell(3, "tool 0 man 0 work 0 from 0 for 1;");
        is("told anew it has its own lines alone", x.runs(1, 1), 0);
        tell(2, "");
        fault(3, "tool 0 man 0 work 0 from 0 for 1;", 2, 18);
        fresh();
        fault(3, "tool 0 man 0 work 0 from 0 for 1;", 2, 5);
        x.tool(0, 0, 0);
        fault(3, "tool 0 man 0 work 0 from 0 for 1;", 2, 11);
    }

    private static void tokens() {
        Doc.of(TEXTS, "TOKENS: letters as many as stand together are KEYWORDS (those told here for that text) or none; ");
        yard();
        is("words and numbers without a gap", tell(1, "wear1when1=1;"), 1);
        fault(0, "wil l;", 1, 0);
        fault(0, "willwhen 1=1;", 1, 0);
        fault(0, "Will;", 1, 0);
        fault(0, "WILL;", 1, 0);
        fault(0, "will x;", 1, 5);
        for (String letter : new String[] {"A", "Z", "a", "z"}) {
            fault(0, "will" + letter + ";", 1, 0);
        }
        for (String sign : new String[] {"@", "[", "`", "{"}) {
            fault(0, "will" + sign + ";", 1, 4);
        }
        fault(0, "work 0 takes 1;", 1, 0);
        fault(2, "will;", 1, 0);
        fault(3, "work 0 takes 1;", 1, 0);
        fault(1, "like work;", 1, 5);

        Doc.of(TEXTS, "digits as many as stand together NUMBERS of 1 to 4 digits or none; ");
        is("one digit", likes("7"), 7);
        is("four digits", likes("0007"), 7);
        fault(1, "like 00007;", 1, 5);
        fault(1, "like 12345;", 1, 5);
        fault(1, "like 1 2;", 1, 7);
        fault(1, "like 1;like 2/00000;", 1, 14);

        Doc.of(TEXTS, "; + - * / ( ) < = > . ");
        for (String sign : new String[] {".", ",", ":", "?", "!", "'", "\"", "#", "&", "|"}) {
            fault(0, "will" + sign, 1, 4);
        }
        fault(0, "will when 1<=2;", 1, 12);

        Doc.of(TEXTS, "Blanks (32, 10) between. ");
        is("many of both", tell(0, "\n will \n\nwhen\n1 = 1 ; \n"), 1);
        is("no other signs than blanks", tell(0, " \n \n"), 0);
        for (String sign : new String[] {"\t", "\r", "\u0000", "\u000b", "\u000c", "\u001f", "\u0080", "\u00a0", "\u00ff"}) {
            fault(0, "will" + sign + ";", 1, 4);
        }

        Doc.of(TEXTS, "Ints, which wrap; / goes towards 0. ");
        // 9999 to the third is 999700029999, and -1027349969 as an int; a part of it by 9999 twice is -10.2..
        is("times wraps", servesWhen("9999*9999*9999<0"), 1);
        is("a quotient below 0 goes up", likes("9999*9999*9999/9999/9999"), -10);
        is("the greatest int", servesWhen("4634*4634*100+9782*9+9>0"), 1);
        is("plus wraps", servesWhen("4634*4634*100+9782*9+10<0"), 1);
        is("the least int", servesWhen("0-4634*4634*100-9782*9-10<0"), 1);
        is("minus wraps", servesWhen("0-4634*4634*100-9782*9-11>0"), 1);
        is("a quotient above 0 goes down", likes("7/2"), 3);
        tapesOfTokens();
    }

    /** As many tokens as bytes, and texts as long as a TAPE, again and again. */
    private static void tapesOfTokens() {
        fault(0, ";".repeat(400), 1, 0);
        fault(1, "like 1" + "+1".repeat(197), 1, 400);
        fault(1, "like 1" + "+".repeat(394), 1, 7);
        for (int i = 0; i < 3; i++) {
            is("the longest sum", tell(1, "like1" + "+1".repeat(197) + ";"), 1);
            is("like", x.tells(0, 0, 2), 198);
        }
    }

    private static void faults() {
        Doc.of(TEXTS, "FAULTS, the first by its place, ");
        yard();
        fault(2, "work 4 takes 4;", 2, 5);
        fault(2, "work 4 take", 2, 5);
        fault(2, "work 0 take 4;", 1, 7);
        fault(0, "will;".repeat(16) + "wont 1;", 3, 80);
        fault(0, "will when 1/0=1 and ((((((((( 1=1;", 2, 12);

        Doc.of(TEXTS, "at one place the least: ");
        fault(0, "will;".repeat(16) + "wear", 1, 80);
        fault(2, "work 0 takes 1;".repeat(8) + "works", 1, 120);
        fault(0, "will when " + "(".repeat(8) + "1(", 1, 19);
        fault(0, "will when " + "(".repeat(8) + "1=1 not", 1, 22);

        Doc.of(TEXTS, "1 what can't stand there (the end: the text's length). ");
        fault(0, "will", 1, 4);
        fault(0, "will  \n", 1, 7);
        fault(0, "will when (1=1", 1, 14);
        fault(1, "like 1/", 1, 7);
        fault(2, "work 0 takes 1", 1, 14);
        fault(3, "tool", 1, 4);
        is("an end that may stand there", tell(0, "will;"), 1);

        Doc.of(TEXTS, "2 (at the NUMBER) a part by 0; ");
        fault(1, "like 4/0;", 2, 7);
        fault(1, "like 4/ \n0000;", 2, 9);
        fault(0, "will when 1=edge/0;", 2, 17);
        is("a part by 1", likes("4/1"), 4);
        is("a part of 0", likes("0/9999"), 0);

        Doc.of(TEXTS, "a NUMBER beyond its bounds. ");
        fault(2, "work  9999 takes 1;", 2, 6);
        fault(2, "work 0 takes 1 after 7;", 2, 21);
        fault(3, "tool 8 man 0 work 0 from 0 for 1;", 2, 5);
        fault(3, "tool 0 man 0 work 0 from 0 for 9999;", 2, 31);
    }

    private static void faultsOfTooMuch() {
        Doc.of(TEXTS, "3 (at its KEYWORD) the 17th line of a LAW, ");
        yard();
        is("16 lines of serving", tell(0, "will;".repeat(16)), 16);
        fault(0, "will;".repeat(17), 3, 80);
        fault(0, "will;".repeat(16) + "  wont", 3, 82);
        is("16 lines of edges", tell(1, "mood 1;".repeat(16)), 16);
        fault(1, "mood 1;".repeat(17), 3, 112);

        Doc.of(TEXTS, "the 9th WORK, ");
        is("8 works", tell(2, "work 0 takes 1;".repeat(8)), 8);
        fault(2, "work 0 takes 1;".repeat(9), 3, 120);
        fault(2, "work 0 takes 1;".repeat(8) + "\nwork", 3, 121);

        // a line has 24 bytes at least, so the TAPE's 400 are too few for 21 of them: but more than 16 there may be begun
        Doc.of(TEXTS, "the 21st line of A ROTA; ");
        String line = "tool0man0work0from0for1;";
        is("16 lines", tell(3, line.repeat(16)), 16);
        fault(3, line.repeat(16) + "tool0man0work", 1, 397);

        Doc.of(TEXTS, "(at it) the 9th ( or not that is open. ");
        is("8 (", servesWhen("(".repeat(8) + "1=1" + ")".repeat(8)), 1);
        fault(0, "will when " + "(".repeat(9) + "1=1" + ")".repeat(9) + ";", 3, 18);
        is("8 not", servesWhen("not ".repeat(8) + "1=1"), 1);
        fault(0, "will when " + "not ".repeat(9) + "1=1;", 3, 42);
        is("4 of each", servesWhen("not(".repeat(4) + "1=1" + ")".repeat(4)), 1);
        fault(0, "will when " + "not(".repeat(4) + "not 1=1" + ")".repeat(4) + ";", 3, 26);
        fault(0, "will when " + "(not ".repeat(4) + "(1=1" + ")".repeat(5) + ";", 3, 30);
        is("those that are closed don't count", servesWhen("(1=1)and not 1=2 and ".repeat(8) + "((((((((1=1))))))))"), 1);
        is("a not is open as long as its C", servesWhen("not not not not not not not not 1=1 and not 1=2"), 1);
    }

    private static void facts() {
        Doc.of(TEXTS, "skill: of the MAN; edge; moods: MOOD; today: TODAY; kind; ");
        fresh();
        x.tool(3, 2, 1);
        x.man(99, 0);
        x.man(0, 1);
        tell(2, "work 3 takes 2;");
        tell(3, "tool 0 man 0 work 0 from 7 for 2;");
        x.set(0, 0, 98);
        x.set(1, 0, 97);
        is("skill", likes("skill"), 99);
        is("skill of the other man", x.tells(0, 1, 2), 0);
        is("edge", likes("edge"), 98);
        is("moods", likes("moods"), 97);
        is("today", likes("today"), 0);
        is("kind", likes("kind"), 3);

        Doc.of(TEXTS, "same: 1, if LEFT of both is alike, else 0; ");
        is("not alike", likes("same"), 0);
        is("alike", x.tells(0, 1, 2), 1);

        Doc.of(TEXTS, "branch; bell; weekday; served: HOURS.");
        is("branch", likes("branch"), 2);
        is("served", likes("served"), 0);
        goTo(9);
        is("today 1, served 2", likes("today*10+served"), 12);
        is("bell 1, weekday 1", likes("bell*10+weekday"), 11);
    }

    private static void serving() {
        Doc.of(TEXTS, "A TOOL SERVES a MAN, if its BRANCH MAY its KIND ");
        yard();
        x.may(0, 0, false);
        is("its branch may not its kind", x.serves(0, 0), 0);
        is("another branch may it", x.serves(1, 0), 1);
        x.may(0, 0, true);
        x.may(0, 1, false);
        is("its branch may not another kind", x.serves(0, 0), 1);

        Doc.of(TEXTS, "and is not in STRIKES, ");
        yard();
        x.strike(0, true);
        is("it strikes", x.serves(0, 0), 0);
        is("another branch strikes", x.serves(1, 0), 1);

        Doc.of(TEXTS, "its OFF is not the weekday, ");
        yard();
        x.set(3, 0, 1);
        goTo(7);
        is("the hour ahead of its day", x.serves(0, 0), 1);
        goTo(8);
        is("the first hour of its day", x.serves(0, 0), 0);
        goTo(15);
        is("the last hour of its day", x.serves(0, 0), 0);
        goTo(16);
        is("the hour behind its day", x.serves(0, 0), 1);

        Doc.of(TEXTS, "its EDGE is above 0, ");
        yard();
        x.set(0, 0, 1);
        is("an edge of 1", x.serves(0, 0), 1);
        x.set(0, 0, 0);
        is("an edge of 0", x.serves(0, 0), 0);
        tell(0, "will;");
        is("an edge of 0, by a law", x.serves(0, 0), 0);

        Doc.of(TEXTS, "and the first line of SERVING whose B is so, or that has none (yes without one), is will.");
        yard();
        is("no law", x.serves(0, 0), 1);
        tell(0, "wont when 1=2;");
        is("no line that is so", x.serves(0, 0), 1);
        tell(0, "will when 1=2;wont;will;");
        is("the first that is so is wont", x.serves(0, 0), 0);
        tell(0, "wont when 1=2;will;wont;");
        is("the first that is so is will", x.serves(0, 0), 1);
        tell(0, "wont when 1=2;".repeat(15) + "wont;");
        is("the sixteenth", x.serves(0, 0), 0);
    }

    private static void telling() {
        Doc.of(TEXTS, "What EDGES tell: E of the first line with that word whose B is so, or that has none (none: wear 1, mood 0, like 0): ");
        yard();
        for (String law : new String[] {"", "wear 5 when 1=2;mood 5 when 1=2;like 5 when 1=2;"}) {
            tell(1, law);
            is("wear", x.tells(0, 0, 0), 1);
            is("mood", x.tells(0, 0, 1), 0);
            is("like", x.tells(0, 0, 2), 0);
        }
        tell(1, "wear 2 when 1=2;wear 3;wear 4;like 5;mood 6 when 1=1;mood 7;");
        is("wear", x.tells(0, 0, 0), 3);
        is("mood", x.tells(0, 0, 1), 6);
        is("like", x.tells(0, 0, 2), 5);

        Doc.of(TEXTS, "wear held to 0 .. 20, mood to -20 .. 20, like to -999 .. 999.");
        int[][] held = {{0, 20}, {-20, 20}, {-999, 999}};
        String[] word = {"wear ", "mood ", "like "};
        for (int what = 0; what < 3; what++) {
            for (int by = -1; by <= 1; by++) {
                int low = held[what][0] + by;
                int high = held[what][1] + by;
                tell(1, word[what] + (low < 0 ? "0-" + -low : low) + ";");
                is(word[what] + low, x.tells(0, 0, what), Math.max(low, held[what][0]));
                tell(1, word[what] + high + ";");
                is(word[what] + high, x.tells(0, 0, what), Math.min(high, held[what][1]));
            }
        }
    }

    // ---- part 3 ----

    private static void rotaByHours() {
        Doc.of(HOURS, "AN HOUR. (a) Line by line of A ROTA, if HOUR is from its first to its last one (from and N less 1): ");
        crew(1, "work 0 takes 3;work 0 takes 1;", 2);
        tell(3, "tool 0 man 0 work 0 from 2 for 2;tool 0 man 0 work 1 from 4 for 1;");
        int[] due = {0, 0, 1, 2, 3, 3};
        for (int hour = 0; hour < due.length; hour++) {
            is("nothing is refused", x.hours(1), 0);
            is("hours of work by the end of hour " + hour, x.look(5), due[hour]);
        }

        Doc.of(HOURS, "if TOOL and MAN did not work in this HOUR yet, ");
        crew(2, "work 0 takes 3;work 0 takes 3;", 2);
        tell(3, "tool 0 man 0 work 0 from 0 for 1;tool 0 man 1 work 1 from 0 for 1;");
        is("the tool did", x.hours(1), 1);
        tell(3, "tool 0 man 0 work 0 from 1 for 1;tool 1 man 0 work 1 from 1 for 1;");
        is("the man did", x.hours(1), 1);
        tell(3, "tool 0 man 0 work 0 from 2 for 1;tool 1 man 1 work 1 from 2 for 1;");
        is("neither did", x.hours(1), 0);
        tell(2, "work 1 takes 1;work 0 takes 1;");
        tell(3, "tool 0 man 0 work 0 from 3 for 1;tool 0 man 0 work 1 from 3 for 1;");
        is("one that was refused did not work", x.hours(1), 1);
        is("one that was refused did not work", x.work(1, 3), 1);

        Doc.of(HOURS, "the WORK is OPEN, ");
        crew(1, "work 0 takes 1;work 0 takes 1 after 0;", 2);
        tell(3, "tool 0 man 0 work 1 from 0 for 1;");
        is("not open yet", x.hours(1), 1);
        tell(3, "tool 0 man 0 work 0 from 1 for 2;");
        is("open, then done", x.hours(2), 1);

        Doc.of(HOURS, "of the TOOL's KIND, ");
        yard();
        tell(3, "tool 2 man 0 work 0 from 0 for 1;");
        is("of another kind", x.hours(1), 1);
        tell(3, "tool 1 man 0 work 0 from 1 for 1;");
        is("of its kind", x.hours(1), 0);

        Doc.of(HOURS, "and it SERVES him: an hour of it is done: ");
        yard();
        tell(0, "wont when skill<31;");
        tell(3, "tool 0 man 1 work 0 from 0 for 1;");
        is("it does not serve him", x.hours(1), 1);
        is("nothing is done", x.work(0, 3), 0);
        tell(3, "tool 0 man 0 work 0 from 1 for 1;");
        is("it serves him", x.hours(1), 0);
        is("an hour is done", x.work(0, 3), 1);

        Doc.of(HOURS, "else it is REFUSED.");
        yard();
        tell(3, "tool 2 man 0 work 0 from 0 for 2;tool 0 man 0 work 1 from 0 for 2;tool 0 man 0 work 0 from 0 for 1;");
        is("two lines by two hours", x.hours(2), 4);
        is("of a line that is refused nothing stays", x.of(2, 3) + x.of(2, 7) + x.of(2, 8), 60);
        is("the other one", x.of(0, 8), 1);
    }

    private static void worksOfAnHour() {
        int[][] edge = {{99, 20, 79}, {21, 20, 1}, {20, 20, 0}, {19, 20, 0}, {1, 20, 0}, {1, 0, 1}, {60, 21, 40}};
        Doc.of(HOURS, "EDGE is wear less (0 at least), ");
        for (int[] e : edge) {
            is("edge " + e[0] + " by wear " + e[1], anHour(0, e[0], "wear " + e[1] + ";"), e[2]);
        }

        int[][] mood = {{50, 20, 70}, {79, 20, 99}, {80, 20, 99}, {99, 1, 99}, {21, -20, 1}, {20, -20, 0}, {19, -20, 0}, {0, -1, 0}};
        Doc.of(HOURS, "MOOD is mood more (0 .. 99), ");
        for (int[] m : mood) {
            is("mood " + m[0] + " by " + m[1], anHour(1, m[0], "mood " + (m[1] < 0 ? "0-" + -m[1] : m[1]) + ";"), m[2]);
        }

        Doc.of(HOURS, "both asked ahead of it, ");
        is("mood is asked ahead of the wear", anHour(1, 50, "wear 9;mood 3 when edge=60;mood 5;"), 53);
        is("wear is asked ahead of the mood", anHour(0, 60, "mood 3;wear 9 when moods=50;wear 2;"), 51);
        is("and ahead of today", anHour(0, 60, "wear 9 when today=0 and served=0;wear 2;"), 51);
        is("and ahead of served", anHour(1, 50, "mood 9 when today=0 and served=0;mood 2;"), 59);

        Doc.of(HOURS, "TODAY and HOURS one more; ");
        crew(2, "work 0 takes 3;", 1);
        tell(3, "tool 0 man 0 work 0 from 0 for 3;");
        for (int hour = 1; hour <= 3; hour++) {
            x.hours(1);
            is("today and hours", 10 * x.of(0, 7) + x.of(0, 8), 11 * hour);
            is("of another one", x.of(1, 7) + x.of(1, 8), 0);
        }

        Doc.of(HOURS, "(WORKS are OPEN by what was done in the HOURS ahead and by the lines ahead.)");
        crew(3, "work 0 takes 1;work 0 takes 1 after 0;work 0 takes 2;", 3);
        tell(3, "tool 0 man 0 work 1 from 0 for 1;tool 1 man 1 work 0 from 0 for 1;tool 0 man 0 work 1 from 0 for 1;");
        is("the line behind is too late, the line ahead is not", x.hours(1), 1);
        is("both are done", x.work(0, 5) + x.work(1, 5), 2);
        tell(3, "tool 0 man 0 work 2 from 1 for 1;tool 1 man 1 work 2 from 1 for 1;tool 2 man 2 work 2 from 1 for 1;");
        is("done by two lines, refused by the third", x.hours(1), 1);
        is("no more than it takes", x.work(2, 3), 2);
        is("the third tool", x.of(2, 8), 0);
    }

    /** What has become of EDGE (0) or MOOD (1) of a tool, that were this, by an hour of work. */
    private static int anHour(int what, int was, String law) {
        crew(1, "work 0 takes 1;", 1);
        tell(1, law);
        x.set(what, 0, was);
        tell(3, "tool 0 man 0 work 0 from 0 for 1;");
        is("hours(1)", x.hours(1), 0);
        return x.of(0, 3 + what);
    }

    private static void rust() {
        // the draws from 0 are 563, 577, 494, 947, with these states
        int[] state = {1013904223, 1196435762, -775096599, -1426500812};
        Doc.of(HOURS, "(b) If RUST is above 0: ");
        crew(4, "work 0 takes 1;", 1);
        x.hours(1);
        is("no rust, no draw", x.look(6), 0);
        x.set(5, 0, 1);
        x.hours(1);
        is("rust 1, four draws", x.look(6), state[3]);

        Doc.of(HOURS, "TOOL by TOOL that did not work in this HOUR ");
        crew(4, "work 0 takes 1;", 1);
        tell(3, "tool 1 man 0 work 0 from 0 for 1;tool 2 man 1 work 0 from 0 for 1;");
        x.set(5, 0, 570);
        is("one that is refused did not work", x.hours(1), 1);
        is("three draws", x.look(6), state[2]);
        is("tool 0 by the first draw", x.of(0, 3), 59);
        is("tool 1 by its work alone", x.of(1, 3), 59);
        is("tool 2 by the second draw", x.of(2, 3), 60);
        is("tool 3 by the third draw", x.of(3, 3), 59);

        Doc.of(HOURS, "and has an EDGE above 0 a DRAW of 1000: ");
        crew(3, "work 0 takes 1;", 1);
        x.set(0, 0, 0);
        x.set(0, 1, 1);
        x.set(5, 0, 1000);
        x.hours(1);
        is("two draws", x.look(6), state[1]);
        is("an edge of 0", x.of(0, 3), 0);
        is("an edge of 1", x.of(1, 3), 0);
        x.hours(1);
        is("one draw more", x.look(6), state[2]);
        is("below it there is none", x.of(0, 3) + x.of(1, 3), 0);

        Doc.of(HOURS, "below RUST EDGE is one less.");
        crew(2, "work 0 takes 1;", 1);
        x.set(5, 0, 563);
        x.hours(1);
        is("a draw of rust", x.of(0, 3), 60);
        is("a draw above it", x.of(1, 3), 60);
        x.undo();
        x.set(5, 0, 564);
        x.hours(1);
        is("a draw below rust", x.of(0, 3), 59);
        is("a draw above it", x.of(1, 3), 60);
        x.state(0);
        x.set(5, 0, 1000);
        x.hours(4);
        is("all draws are below 1000", x.of(0, 3) + x.of(1, 3), 111);
    }

    private static void nextHour() {
        Doc.of(HOURS, "(c) HOUR is one more; with bell 0 TODAY is 0 of all.");
        crew(2, "work 0 takes 3;work 0 takes 3;", 2);
        tell(3, "tool 0 man 0 work 0 from 6 for 3;tool 1 man 1 work 1 from 5 for 1;");
        int[] due = {0, 0, 0, 0, 0, 0, 1, 11, 0, 10};
        for (int hour = 0; hour < due.length; hour++) {
            is("look(3)", x.look(3), hour);
            is("today of both at hour " + hour, 10 * x.of(0, 7) + x.of(1, 7), due[hour]);
            x.hours(1);
        }
    }

    private static void theBook() {
        Doc.of(HOURS, "THE BOOK (200 lines; no more then): ");
        crew(4, "", 0);
        tell(1, "wear 0;");
        fillBook(196);
        is("look(5)", x.look(5), 196);
        tell(2, "work 0 takes 3;work 0 takes 2;");
        int now = x.look(3);
        tell(3, "tool 3 man 2 work 0 from " + now + " for 3;tool 1 man 0 work 1 from " + now + " for 2;");
        x.hours(2);
        is("200 lines", x.look(5), 200);
        is("the last line", 10 * x.book(199, 1) + x.book(199, 2), 10);
        is("an hour of work without a line", x.hours(1), 0);
        is("it is done", x.work(0, 5), 1);
        is("no more lines", x.look(5), 200);
        is("no more lines", x.book(200, 0), -1);
        is("the last line stays", x.book(199, 0), now + 1);
        x.undo();
        is("an hour without a line is undone", x.look(5), 200);
        x.undo();
        is("an hour with two lines is undone", x.look(5), 198);

        Doc.of(HOURS, "HOUR, TOOL, MAN, WORK of each hour of WORK that is done.");
        crew(3, "work 0 takes 1;work 0 takes 3;", 2);
        tell(3, "tool 2 man 1 work 1 from 4 for 2;tool 1 man 2 work 0 from 5 for 2;");
        is("a line that is refused", x.hours(7), 1);
        is("look(5)", x.look(5), 3);
        int[] due = {4211, 5211, 5120};
        for (int i = 0; i < 3; i++) {
            is("book of " + i, 1000 * x.book(i, 0) + 100 * x.book(i, 1) + 10 * x.book(i, 2) + x.book(i, 3), due[i]);
        }
    }

    /** Four tools and men do as many hours of work, a multiple of four. */
    private static void fillBook(int lines) {
        for (int done = 0; done < lines; done += 12) {
            int each = Math.min(12, lines - done) / 4;
            tell(2, ("work 0 takes " + each + ";").repeat(4));
            StringBuilder rota = new StringBuilder();
            for (int i = 0; i < 4; i++) {
                rota.append("tool ").append(i).append(" man ").append(i).append(" work ").append(i).append(" from ")
                    .append(x.look(3)).append(" for 3;");
            }
            tell(3, rota.toString());
            x.hours(each);
        }
    }

    private static void mending() {
        Doc.of(HOURS, "To SHARPEN a TOOL: EDGE 20 more (99 at most), MOOD 5 less (0 at least).");
        int[][] sharpened = {{0, 50, 20, 45}, {78, 6, 98, 1}, {79, 5, 99, 0}, {80, 4, 99, 0}, {99, 0, 99, 0}};
        for (int[] s : sharpened) {
            yard();
            x.set(0, 0, s[0]);
            x.set(1, 0, s[1]);
            is("mend", x.mend(0, false), true);
            is("edge of " + s[0], x.of(0, 3), s[2]);
            is("mood of " + s[1], x.of(0, 4), s[3]);
            is("another one", x.of(1, 3), 60);
        }

        Doc.of(HOURS, "To OIL it: MOOD 10 more (99 at most).");
        int[][] oiled = {{0, 10}, {88, 98}, {89, 99}, {90, 99}, {99, 99}};
        for (int[] o : oiled) {
            yard();
            x.set(1, 0, o[0]);
            is("mend", x.mend(0, true), true);
            is("mood of " + o[0], x.of(0, 4), o[1]);
            is("edge", x.of(0, 3), 60);
            is("another one", x.of(1, 4), 50);
        }

        Doc.of(HOURS, "A BRANCH STRIKES, or no more.");
        yard();
        is("it strikes", x.strike(1, true), true);
        is("it does not serve", x.serves(1, 0), 0);
        is("no more", x.strike(1, false), true);
        is("it serves", x.serves(1, 0), 1);

        Doc.of(HOURS, "MAY of a BRANCH and a KIND is told.");
        yard();
        is("it may not", x.may(2, 1, false), true);
        is("it does not serve", x.serves(2, 0), 0);
        is("it may", x.may(2, 1, true), true);
        is("it serves", x.serves(2, 0), 1);
    }
}
