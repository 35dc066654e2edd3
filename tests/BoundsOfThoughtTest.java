/** For each sentence of the document's Terms, part 4, a test of its own, at its bounds. */
final class BoundsOfThoughtTest extends Bounds {
    private static final String THOUGHT = "Terms 4";

    private BoundsOfThoughtTest() {
    }

    public static void main(String[] args) throws java.io.IOException {
        Doc.read(args[0]);
        nothingStays();
        hands();
        soonest();
        soonestSets();
        stop();
        keep();
        changes();
        votes();
        mates();
        lasts();
        runs();
        ready();
        idle();
        dull();
        loved();
        seenAndOrders();
        undo();
        undoForgets();
        image();
        Doc.allOf("Terms 4");
        Due.finish("BoundsOfThoughtTest");
    }

    private static void nothingStays() {
        Doc.of(THOUGHT, "IN THOUGHT (nothing of it stays; no DRAWS: no RUST).");
        yard();
        x.set(5, 0, 1000);
        x.state(5);
        tell(3, "tool 0 man 0 work 0 from 0 for 2;tool 1 man 1 work 2 from 0 for 2;tool 2 man 0 work 1 from 3 for 1;");
        x.mend(0, true);
        String before = all();
        is("runs", x.runs(99, 0), 4);
        is("dull by a rota, not by rust", x.dull(1, 99), -1);
        is("lasts, not by rust", x.lasts(1, 1), 60);
        is("idle", x.idle(99), 0);
        is("ready", x.ready(), 4);
        is("soonest", x.soonest(0), 3);
        is("the set", x.soonest(1), 1);
        is("few", x.few(0) + x.few(3), 6);
        is("changes", x.changes(0), 0);
        is("loved", x.loved(), 0);
        is("orders", x.orders(0), 3);
        nothingChanged(before);
        is("state", x.look(6), 5);
        is("what can be undone", x.look(10), 1);
    }

    private static void hands() {
        Doc.of(THOUGHT, "HANDS of a WORK (by its KIND; OPEN or not): ");
        yard();
        is("an open one", x.work(0, 6), 4);
        is("one that is not open", x.work(1, 6), 2);
        tell(3, "tool 0 man 0 work 2 from 0 for 1;");
        x.hours(1);
        is("one that is done", x.work(2, 6), 4);

        Doc.of(THOUGHT, "the couples of TOOL and MAN that SERVE now: how many; ");
        x.set(3, 0, 0);
        is("one tool is off", x.work(0, 6), 2);
        tell(0, "wont when skill=50;");
        is("and serves one man alone", x.work(0, 6), 1);
        x.set(0, 1, 0);
        is("none", x.work(0, 6), 0);
        fresh();
        for (int i = 0; i < 8; i++) {
            x.tool(0, 0, 0);
        }
        tell(2, "work 0 takes 1;");
        is("no man", x.work(0, 6), 0);
        for (int i = 0; i < 4; i++) {
            x.man(0, 0);
        }
        is("all couples", x.work(0, 6), 32);

        Doc.of(THOUGHT, "the first (by TOOL, then MAN).");
        yard();
        is("the first tool", 10 * x.work(0, 7) + x.work(0, 8), 0);
        tell(0, "wont when edge=60 and skill=50;");
        is("its first man", 10 * x.work(0, 7) + x.work(0, 8), 1);
        x.set(0, 1, 61);
        is("by tool ahead of man", 10 * x.work(0, 7) + x.work(0, 8), 1);
        x.strike(0, true);
        is("the second tool", 10 * x.work(0, 7) + x.work(0, 8), 10);
        x.strike(1, true);
        is("none", 10 * x.work(0, 7) + x.work(0, 8), -11);
    }

    private static void soonest() {
        Doc.of(THOUGHT, "SOONEST: who SERVES whom stays as it is now, ");
        crew(1, "work 0 takes 3;", 1);
        tell(0, "wont when today>0;");
        is("it would not serve any more", x.soonest(0), 3);
        goTo(6);
        x.set(3, 0, 1);
        is("it would be off", x.soonest(0), 3);
        x.set(3, 0, 0);
        is("it would not be off any more", x.soonest(0), -1);

        Doc.of(THOUGHT, "edges do not wear: ");
        crew(1, "work 0 takes 3;", 1);
        x.set(0, 0, 1);
        tell(1, "wear 20;");
        is("an edge of 1 is enough", x.soonest(0), 3);
        x.set(0, 0, 0);
        is("one of 0 is not", x.soonest(0), -1);

        Doc.of(THOUGHT, "each HOUR each TOOL and each MAN do an hour of one OPEN WORK at most, ");
        int[][] crews = {{1, 1, 8}, {1, 4, 8}, {8, 1, 8}, {2, 4, 4}, {4, 2, 4}, {4, 4, 2}, {8, 4, 2}, {3, 4, 3}};
        for (int[] c : crews) {
            crewOf(c[0], c[1], "work 0 takes 1;".repeat(8));
            is(c[0] + " tools and " + c[1] + " men", x.soonest(0), c[2]);
        }

        Doc.of(THOUGHT, "a WORK one hour an HOUR ");
        crew(4, "work 0 takes 3;", 1);
        is("four couples and one work", x.soonest(0), 3);
        tell(2, "work 0 takes 3;work 0 takes 1;work 0 takes 1;work 0 takes 1;");
        is("four couples and four works", x.soonest(0), 3);

        Doc.of(THOUGHT, "(OPEN by the HOURS ahead): ");
        crew(4, "work 0 takes 1;work 0 takes 1 after 0;", 2);
        is("one behind the other", x.soonest(0), 2);
        is("the first alone", x.soonest(1), 1);
        crew(4, "work 0 takes 3;" + chain(7, 3), 8);
        is("a chain of eight", x.soonest(0), 24);
        is("the first alone", x.soonest(1), 1);

        Doc.of(THOUGHT, "the fewest HOURS until all are DONE; ");
        is("the most there are", x.soonest(0), 24);
        crew(2, "work 0 takes 1;work 0 takes 1;work 0 takes 3;", 3);
        is("the long one in each hour", x.soonest(0), 3);
        crew(2, "work 0 takes 1;work 0 takes 2;work 0 takes 1;work 0 takes 2 after 2;work 0 takes 1 after 3;", 5);
        is("the chain ahead of the others", x.soonest(0), 4);
        tell(3, "tool 0 man 0 work 2 from 0 for 1;tool 1 man 1 work 1 from 0 for 2;tool 0 man 0 work 3 from 1 for 2;"
            + "tool 1 man 1 work 0 from 2 for 1;tool 1 man 1 work 4 from 3 for 1;");
        for (int left = 3; left >= 0; left--) {
            is("nothing is refused", x.hours(1), 0);
            is("hours that are left", x.soonest(0), left);
        }
        is("all are done", x.soonest(1), 0);
    }

    private static void crewOf(int tools, int men, String hull) {
        fresh();
        for (int i = 0; i < tools; i++) {
            x.tool(0, 0, 0);
        }
        for (int i = 0; i < men; i++) {
            x.man(50, 0);
        }
        is("a hull", tell(2, hull) > 0, true);
    }

    private static String chain(int works, int takes) {
        StringBuilder s = new StringBuilder();
        for (int i = 0; i < works; i++) {
            s.append("work 0 takes ").append(takes).append(" after ").append(i).append(';');
        }
        return s.toString();
    }

    private static void soonestSets() {
        Doc.of(THOUGHT, "the set of WORKS in the first HOUR: of several the least set.");
        crew(2, "work 0 takes 1;work 0 takes 1;work 0 takes 3;", 3);
        is("the long one alone is enough", x.soonest(1), 4);
        crew(4, "work 0 takes 1;".repeat(8), 8);
        is("half of them", x.soonest(1), 15);
        crew(4, "work 0 takes 1;work 0 takes 1;work 0 takes 1;", 3);
        is("all of them", x.soonest(1), 7);
        crew(1, "work 0 takes 1;work 0 takes 1;work 0 takes 1;", 3);
        is("the least of all", x.soonest(1), 1);
        crew(4, "work 0 takes 1;work 0 takes 2;", 2);
        is("the lesser one may wait", x.soonest(1), 2);
        // tool 0 serves both men, tool 1 the first man alone
        yard();
        tell(2, "work 0 takes 1;work 0 takes 1;");
        tell(0, "wont when edge=61 and skill=30;");
        x.set(0, 1, 61);
        is("the couples go around", 10 * x.soonest(0) + x.soonest(1), 13);
        x.set(0, 0, 61);
        is("both the first man alone", 10 * x.soonest(0) + x.soonest(1), 21);
        soonestOfKinds();
    }

    /** More WORKS of a KIND are open than couples for it, though there would be MEN, or TOOLS, for as many of all KINDS. */
    private static void soonestOfKinds() {
        String chains = "work 0 takes 1;work 0 takes 1;work 1 takes 1;work 1 takes 3 after 0;work 1 takes 3 after 1;";
        kinds(1, 3, 4, chains);
        is("0 and 1 can't be done at once", 10 * x.soonest(0) + x.soonest(1), 51);
        kinds(2, 3, 4, chains);
        is("by two tools they can", 10 * x.soonest(0) + x.soonest(1), 43);
        tell(0, "wont when kind=0 and skill>0;");
        is("both serve the first man alone", 10 * x.soonest(0) + x.soonest(1), 51);
        kinds(1, 2, 2, "work 0 takes 1;work 0 takes 1;work 1 takes 1;work 1 takes 1;");
        is("one of each kind", 10 * x.soonest(0) + x.soonest(1), 25);
        kinds(2, 1, 3, "work 0 takes 3;work 0 takes 3;work 0 takes 2;work 1 takes 2;work 1 takes 1;");
        is("two of kind 0 each hour", 10 * x.soonest(0) + x.soonest(1), 43);
        kinds(2, 1, 3, "work 0 takes 1;work 1 takes 1;work 1 takes 1;work 1 takes 2 after 2;work 1 takes 1 after 3;");
        is("one of kind 1 each hour", 10 * x.soonest(0) + x.soonest(1), 52);
        kinds(2, 1, 2, "work 0 takes 1;work 0 takes 2;work 0 takes 1;work 1 takes 1 after 0 after 1 after 2;");
        is("both must be at work for two hours", 10 * x.soonest(0) + x.soonest(1), 33);
        for (int man = 0; man < 4; man++) {
            crewOf(8, 4, "work 0 takes 1;".repeat(8));
            x.set(4, man, 49);
            is("four men", x.soonest(0), 2);
            tell(0, "wont when skill=49;");
            is("none serves man " + man, 10 * x.soonest(0) + x.soonest(1), 33);
        }
        fresh();
        for (int kind = 0; kind < 4; kind++) {
            x.tool(kind, 0, 0);
        }
        for (int i = 0; i < 3; i++) {
            x.man(0, 0);
        }
        tell(2, "work 0 takes 1;work 1 takes 1;work 2 takes 1;work 3 takes 1;");
        is("three men for four kinds", 10 * x.soonest(0) + x.soonest(1), 21);
        x.man(0, 0);
        is("four men for four kinds", 10 * x.soonest(0) + x.soonest(1), 10 + 15);
    }

    /** So many tools of kind 0, of kind 1, one of each other kind, and men of skills 0 and more. */
    private static void kinds(int ofKind0, int ofKind1, int men, String hull) {
        fresh();
        for (int i = 0; i < ofKind0 + ofKind1; i++) {
            x.tool(i < ofKind0 ? 0 : 1, 0, 0);
        }
        x.tool(2, 0, 0);
        x.tool(3, 0, 0);
        for (int i = 0; i < men; i++) {
            x.man(i, 0);
        }
        is("a hull", tell(2, hull) > 0, true);
    }

    private static void stop() {
        Doc.of(THOUGHT, "STOP: the fewest TOOLS without whom some WORK that is not DONE has no HANDS: ");
        yard();
        is("the one of kind 1", 10 * x.few(0) + x.few(1), 14);
        x.tool(1, 0, 0);
        x.tool(1, 0, 0);
        is("the two of kind 0", 10 * x.few(0) + x.few(1), 23);
        tell(3, "tool 0 man 0 work 0 from 0 for 2;tool 1 man 1 work 2 from 0 for 1;");
        x.hours(2);
        is("kind 0 is done: the three of kind 1", 100 * x.few(0) + x.few(1), 328);
        x.strike(2, true);
        is("one of them serves nobody", 100 * x.few(0) + x.few(1), 224);
        x.strike(0, true);
        is("it has none already", x.few(0) + x.few(1), 0);
        yard();
        x.strike(0, true);
        x.strike(1, true);
        is("one kind has none already, another has some", x.few(0) + x.few(1), 0);
        crewOf(8, 1, "work 0 takes 1;");
        is("all tools", 1000 * x.few(0) + x.few(1), 8255);

        Doc.of(THOUGHT, "the least set of these.");
        fresh();
        for (int kind : new int[] {2, 1, 3, 2, 1, 3}) {
            x.tool(kind, 0, 0);
        }
        x.man(0, 0);
        tell(2, "work 1 takes 1;work 2 takes 1;work 3 takes 1;");
        is("tools 0 and 3", x.few(1), 9);
        tell(2, "work 1 takes 1;work 3 takes 1;");
        is("tools 1 and 4", x.few(1), 18);
    }

    private static void keep() {
        Doc.of(THOUGHT, "KEEP: the fewest TOOLS with whom alone each such WORK has HANDS: ");
        yard();
        is("one of each kind", 10 * x.few(2) + x.few(3), 25);
        tell(3, "tool 0 man 0 work 0 from 0 for 2;tool 1 man 1 work 2 from 0 for 1;");
        x.hours(2);
        is("one of the kind that is left", 10 * x.few(2) + x.few(3), 14);
        fresh();
        for (int i = 0; i < 8; i++) {
            x.tool(3 - i / 2, 0, 0);
        }
        x.man(0, 0);
        tell(2, "work 0 takes 1;work 1 takes 1;work 2 takes 1;work 3 takes 1;");
        is("of four kinds", x.few(2), 4);

        Doc.of(THOUGHT, "the least set.");
        is("the first of each kind", x.few(3), 85);
        x.set(0, 0, 0);
        is("the first one that serves", x.few(3), 86);
    }

    private static void changes() {
        Doc.of(THOUGHT, "CHANGES: the fewest (BRANCH, KIND) of MAY to be told more so that each WORK that is not DONE has HANDS: ");
        yard();
        is("none is lacking", x.changes(0), 0);
        x.may(0, 0, false);
        is("another branch has hands for it", x.changes(0), 0);
        x.may(1, 0, false);
        is("one is lacking", x.changes(0), 1);
        x.may(2, 1, false);
        is("two are lacking", x.changes(0), 2);
        tell(2, "work 1 takes 1;");
        is("no work of the other kind", x.changes(0), 1);
        tell(2, "");
        is("no work", x.changes(0), 0);
        fresh();
        x.man(0, 0);
        for (int kind = 0; kind < 4; kind++) {
            x.tool(kind, kind, 0);
            x.may(kind, kind, false);
        }
        tell(2, "work 0 takes 1;work 1 takes 1;work 2 takes 1;work 3 takes 1;work 0 takes 1;");
        is("all four", x.changes(0), 4);

        Doc.of(THOUGHT, "of several ways the first (KIND by KIND, the least BRANCH).");
        for (int kind = 0; kind < 4; kind++) {
            is("its branch", x.changes(10 + kind), kind);
        }
        for (int kind = 0; kind < 4; kind++) {
            x.tool(kind, 3 - kind, 0);
            x.may(3 - kind, kind, false);
        }
        for (int kind = 0; kind < 4; kind++) {
            is("the lesser branch", x.changes(10 + kind), Math.min(kind, 3 - kind));
        }
        x.strike(0, true);
        is("one that strikes is no way", x.changes(10), 3);
        x.set(0, 1, 0);
        is("one whose tool has no edge is no way", x.changes(11), 2);
    }

    private static void votes() {
        Doc.of(THOUGHT, "A VOTE with a set of TOOLS: agreed, if their VOTES are QUOTA at least.");
        yard();
        x.set(2, 0, 9);
        x.set(2, 1, 8);
        x.set(2, 2, 0);
        x.set(6, 0, 17);
        is("just as many", x.vote(3), 1);
        x.set(6, 0, 18);
        is("one less", x.vote(3), 0);
        is("all", x.vote(7), 0);
        x.set(6, 0, 1);
        is("none", x.vote(0), 0);
        is("one without votes", x.vote(4), 0);
        is("one with votes", x.vote(2), 1);

        Doc.of(THOUGHT, "SWINGS of a TOOL: in how many sets of the other ones it is not agreed, but with it.");
        int[] votes = {4, 3, 2, 1};
        int[] swings = {5, 3, 3, 1};
        int[] power = {10, 6, 6, 2};
        fourVotes(votes);
        for (int i = 0; i < 4; i++) {
            is("swings of " + i, x.of(i, 9), swings[i]);
        }
        x.set(6, 0, 11);
        is("never agreed", x.of(0, 9), 0);
        x.set(6, 0, 10);
        is("by all alone", x.of(0, 9), 1);
        x.set(2, 3, 0);
        is("one without votes", x.of(3, 9), 0);
        eightVotes(36);
        is("any three of seven", x.of(7, 9), 35);

        Doc.of(THOUGHT, "POWER: orders of all TOOLS in which it is by it that it is agreed.");
        fourVotes(votes);
        for (int i = 0; i < 4; i++) {
            is("power of " + i, x.of(i, 10), power[i]);
        }
        x.set(6, 0, 11);
        is("never agreed", x.of(0, 10), 0);
        eightVotes(36);
        is("an eighth of all orders", x.of(0, 10), 5040);
        eightVotes(72);
        is("an eighth of all orders", x.of(7, 10), 5040);
        for (int i = 1; i < 8; i++) {
            x.set(2, i, 0);
        }
        x.set(6, 0, 9);
        is("all orders", x.of(0, 10), 40320);
        is("no orders", x.of(1, 10), 0);
    }

    private static void fourVotes(int[] votes) {
        fresh();
        for (int i = 0; i < 4; i++) {
            x.tool(0, 0, 0);
            x.set(2, i, votes[i]);
        }
        x.set(6, 0, 6);
    }

    private static void eightVotes(int quota) {
        fresh();
        for (int i = 0; i < 8; i++) {
            x.tool(0, 0, 0);
            x.set(2, i, 9);
        }
        x.set(6, 0, quota);
    }

    private static void mates() {
        Doc.of(THOUGHT, "MATES: MEN by TOOLS, each MAN one at most and each TOOL: ");
        crewOf(2, 4, "work 0 takes 1;");
        is("two men have one", x.at(0, 2) + 10 * x.at(1, 2) + 100 * x.at(2, 2) + 1000 * x.at(3, 2), 10 - 1100);
        is("both tools have one", x.of(0, 11) + 10 * x.of(1, 11), 10);
        crewOf(4, 1, "work 0 takes 1;");
        is("one tool has one", x.of(0, 11) + 10 * x.of(1, 11) + 100 * x.of(2, 11) + 1000 * x.of(3, 11), -1110);
        fresh();
        x.man(0, 0);
        is("no tools", x.at(0, 2), -1);

        Doc.of(THOUGHT, "nobody to whom it does not SERVE now.");
        yard();
        tell(0, "wont when skill=50;");
        is("whom none serves", x.at(0, 2), -1);
        is("the other one", x.at(1, 2), 0);
        x.set(3, 0, 0);
        is("one that is off", x.at(1, 2), 1);
        is("one that is off", x.of(0, 11), -1);

        Doc.of(THOUGHT, "A MAN likes a TOOL by EDGE (the greater; then the lesser number), ");
        yard();
        x.strike(1, true);
        x.set(4, 1, 49);
        tell(0, "wont when skill=49;");
        is("alike: the lesser", x.at(0, 2), 0);
        x.set(0, 2, 61);
        is("the greater", x.at(0, 2), 2);
        x.set(0, 0, 62);
        is("the greater", x.at(0, 2), 0);

        Doc.of(THOUGHT, "a TOOL a MAN by like (the greater; then the lesser number).");
        yard();
        x.strike(1, true);
        x.strike(2, true);
        is("alike: the lesser", x.of(0, 11), 0);
        tell(1, "like 1 when skill=30;");
        is("the greater", x.of(0, 11), 1);
        tell(1, "like 0-1 when skill=30;");
        is("the greater", x.of(0, 11), 0);
        tell(1, "like 999 when skill=50;like 1000;");
        is("alike as they are held", x.of(0, 11), 0);

        Doc.of(THOUGHT, "No MAN and TOOL would both rather have each other; of such ways the best one for MEN.");
        yard();
        x.set(0, 0, 70);
        tell(1, "like skill;");
        is("the sharpest has the best man", 10 * x.at(0, 2) + x.at(1, 2), 1);
        tell(1, "like 0-skill;");
        is("he must take the next one", 10 * x.at(0, 2) + x.at(1, 2), 10);
        tell(0, "wont when skill=50 and edge<70;");
        is("he gets none", 10 * x.at(0, 2) + x.at(1, 2), -10);
        tell(1, "like skill;");
        is("the other one must take the next one", 10 * x.at(0, 2) + x.at(1, 2), 1);
        matesOfFour();
    }

    /** Tool i likes man i least but those behind him, so each asking turns another man away. */
    private static void matesOfFour() {
        fresh();
        for (int i = 0; i < 4; i++) {
            x.tool(0, i, 0);
            x.set(0, i, 90 - i);
            x.man(10 * i, 0);
        }
        tell(1, "like skill;");
        for (int i = 0; i < 4; i++) {
            is("the sharper to the better", x.at(i, 2), 3 - i);
            is("the sharper to the better", x.of(i, 11), 3 - i);
        }
        tell(0, "wont when skill=30 and edge=90;wont when skill=20 and edge>88;");
        int[] due = {3, 0, 2, 1};
        for (int i = 0; i < 4; i++) {
            is("not all serve all", x.at(i, 2), due[i]);
        }
    }

    private static void lasts() {
        Doc.of(THOUGHT, "LASTS of a TOOL with a MAN: how many hours (99 at most) it works by (a) alone ");
        crew(1, "work 0 takes 1;", 1);
        x.set(0, 0, 99);
        is("99", x.lasts(0, 0), 99);
        x.set(0, 0, 1);
        is("1", x.lasts(0, 0), 1);
        x.set(0, 0, 99);
        tell(1, "wear 0 when served=0;wear 1;");
        is("100", x.lasts(0, 0), -1);
        x.set(0, 0, 98);
        is("99", x.lasts(0, 0), 99);
        tell(2, "");
        is("no work is needed", x.lasts(0, 0), 99);

        Doc.of(THOUGHT, "(SERVES not asked; ");
        x.strike(0, true);
        x.may(0, 0, false);
        x.set(3, 0, 0);
        tell(0, "wont;");
        is("it serves nobody", x.lasts(0, 0), 99);

        Doc.of(THOUGHT, "bell, weekday as now, ");
        yard();
        goTo(7);
        tell(1, "wear 20 when bell=7;wear 1;");
        is("the bell stays", x.lasts(0, 0), 3);
        tell(1, "wear 10 when weekday=0;wear 1;");
        is("the weekday stays", x.lasts(0, 0), 6);

        Doc.of(THOUGHT, "TODAY, HOURS, MOOD, EDGE as they would be) ");
        tell(1, "wear 18 when today=3;wear 2;");
        is("today", x.lasts(0, 0), 22);
        tell(1, "wear 18 when served=3;wear 2;");
        is("hours", x.lasts(0, 0), 22);
        tell(1, "wear 12 when moods>52;wear 2;mood 1;");
        // 60 50, 58 51, 56 52, 54 53, then 12 each
        is("mood", x.lasts(0, 0), 8);
        tell(1, "wear 18 when edge<56;wear 2;");
        is("edge", x.lasts(0, 0), 6);
        tell(3, "tool 0 man 0 work 0 from 7 for 1;");
        x.hours(1);
        tell(1, "wear 20 when served=1;wear 19 when today=0;wear 1;");
        // 58, with today 0 and served 1: then 38, and 1 each
        is("as they are now", x.lasts(0, 0), 39);

        Doc.of(THOUGHT, "until EDGE is 0.");
        x.set(0, 0, 0);
        is("it is", x.lasts(0, 0), 0);
    }

    private static void runs() {
        Doc.of(THOUGHT, "RUNS of n (1 .. 99) HOURS: how many hours of WORK are done, ");
        crew(2, "work 0 takes 3;work 0 takes 1;work 0 takes 1 after 0;", 3);
        tell(3, "tool 0 man 0 work 0 from 0 for 1;tool 0 man 0 work 0 from 98 for 3;tool 1 man 1 work 1 from 1 for 1;");
        is("of one hour", x.runs(1, 0), 1);
        is("of two hours", x.runs(2, 0), 2);
        is("of 98 hours", x.runs(98, 0), 2);
        is("of 99 hours", x.runs(99, 0), 3);
        goTo(2);
        is("from now", x.runs(99, 0), 2);

        Doc.of(THOUGHT, "how many lines REFUSED; ");
        crew(2, "work 0 takes 3;work 0 takes 1;", 2);
        tell(3, "tool 0 man 0 work 0 from 0 for 4;tool 1 man 0 work 1 from 98 for 2;tool 1 man 1 work 0 from 97 for 2;");
        is("of three hours", x.runs(3, 1), 0);
        is("of four hours", x.runs(4, 1), 1);
        is("of 98 hours", x.runs(98, 1), 2);
        is("of 99 hours", x.runs(99, 1), 3);

        Doc.of(THOUGHT, "the first HOUR in which one is, its line.");
        is("of three hours", x.runs(3, 2), -1);
        is("of three hours", x.runs(3, 3), -1);
        is("of four hours", x.runs(4, 2), 3);
        is("of four hours", x.runs(4, 3), 0);
        goTo(20);
        is("as an HOUR", x.runs(99, 2), 97);
        is("its line", x.runs(99, 3), 2);
        tell(3, "tool 1 man 0 work 1 from 20 for 1;tool 1 man 1 work 0 from 20 for 1;tool 0 man 0 work 0 from 20 for 1;");
        is("the first of two", x.runs(1, 2), 20);
        is("the first of two", x.runs(1, 3), 1);
    }

    private static void ready() {
        Doc.of(THOUGHT, "READY: the first HOUR, from this one to 99 more, at the begin of which all WORKS are DONE, by A ROTA.");
        crew(1, "work 0 takes 1;", 1);
        goTo(5);
        is("no rota", x.ready(), -1);
        tell(3, "tool 0 man 0 work 0 from 5 for 1;");
        is("after this hour", x.ready(), 6);
        tell(3, "tool 0 man 0 work 0 from 103 for 1;");
        is("99 more", x.ready(), 104);
        tell(3, "tool 0 man 0 work 0 from 104 for 1;");
        is("100 more", x.ready(), -1);
        tell(2, "");
        is("no works", x.ready(), 5);
        crew(1, "work 0 takes 1;", 1);
        tell(3, "tool 0 man 0 work 0 from 0 for 1;");
        x.hours(3);
        is("it is", x.ready(), 3);
    }

    private static void idle() {
        Doc.of(THOUGHT, "IDLE of n (1 .. 99) HOURS: TOOLS that work in none of these HOURS by A ROTA (a set).");
        crew(3, "work 0 takes 3;work 0 takes 1;", 2);
        is("no rota", x.idle(1), 7);
        tell(3, "tool 0 man 0 work 0 from 0 for 1;tool 1 man 1 work 0 from 98 for 1;tool 2 man 0 work 0 from 0 for 1;");
        is("one hour; one that is refused does not work", x.idle(1), 6);
        is("98 hours", x.idle(98), 6);
        is("99 hours", x.idle(99), 4);
        x.hours(1);
        is("from now", x.idle(97), 7);
        is("from now", x.idle(98), 5);
    }

    private static void dull() {
        Doc.of(THOUGHT, "DULL of a TOOL: how many HOURS go by, by A ROTA, until its EDGE is 0 (0: it is; n, 0 .. 99, at most).");
        crew(2, "work 0 takes 3;work 0 takes 3;", 2);
        x.set(0, 0, 2);
        tell(3, "tool 0 man 0 work 0 from 3 for 1;tool 0 man 0 work 0 from 98 for 1;");
        is("by 99", x.dull(0, 99), 99);
        is("by 98", x.dull(0, 98), -1);
        x.set(0, 0, 1);
        is("by 4", x.dull(0, 4), 4);
        is("by 3", x.dull(0, 3), -1);
        is("by 99", x.dull(0, 99), 4);
        is("by 0", x.dull(0, 0), -1);
        is("without a line", x.dull(1, 99), -1);
        x.set(0, 0, 0);
        is("it is", x.dull(0, 0), 0);
        is("it is", x.dull(0, 99), 0);
        x.set(0, 0, 2);
        tell(3, "tool 0 man 0 work 0 from 99 for 1;tool 0 man 0 work 0 from 0 for 1;");
        is("by 100", x.dull(0, 99), -1);
        x.hours(1);
        is("from now", x.dull(0, 99), 99);
    }

    private static void loved() {
        Doc.of(THOUGHT, "LOVED: the TOOL that most MEN like best (by EDGE and number, of those that SERVE them); ");
        yard();
        is("alike: the lesser number", x.loved(), 0);
        x.set(0, 2, 61);
        is("the greater edge", x.loved(), 2);
        x.strike(2, true);
        is("of those that serve them", x.loved(), 0);
        x.strike(2, false);
        x.man(10, 0);
        tell(0, "wont when edge=61 and skill<40;");
        is("one man by the edge, two by number", x.loved(), 0);
        tell(0, "wont when edge=61 and skill=30;");
        is("two men by the edge", x.loved(), 2);

        Doc.of(THOUGHT, "of several the least.");
        yard();
        x.set(0, 2, 61);
        tell(0, "wont when edge=61 and skill=30;");
        is("one man each", x.loved(), 0);
        tell(0, "wont when edge=61 and skill=50;");
        is("one man each", x.loved(), 0);
        x.set(0, 1, 62);
        tell(0, "wont when edge=62 and skill=50;wont when edge<61;");
        is("tool 1 one man, tool 2 the other", x.loved(), 1);
    }

    private static void seenAndOrders() {
        Doc.of(THOUGHT, "SEEN: couples of WORKS, the first one done ahead of the second (up to 12; none at first).");
        crew(1, "work 0 takes 1;".repeat(5), 5);
        is("look(11)", x.look(11), 0);
        is("orders", x.orders(0), 120);
        for (int i = 0; i < 12; i++) {
            is("a couple", x.seen(4 - i % 3, 0), i + 1);
        }
        is("a thirteenth", x.seen(1, 0), -1);
        is("look(11)", x.look(11), 12);
        is("it was not seen", x.orders(10), 1);
        is("0 behind 2, 3, 4", x.orders(0), 30);
        tell(2, "work 0 takes 1;");
        is("of another hull nothing", x.look(11), 0);

        Doc.of(THOUGHT, "ORDERS: in how many orders all WORKS can have been done one behind the other by AFTER and by what was SEEN; ");
        fresh();
        is("no works", x.orders(0), 1);
        tell(2, "work 0 takes 1;".repeat(8));
        is("eight without an AFTER", x.orders(0), 40320);
        tell(2, "work 0 takes 1;" + chain(7, 1));
        is("a chain of eight", x.orders(0), 1);
        tell(2, "work 0 takes 1;work 0 takes 1;work 0 takes 1 after 0;");
        is("by AFTER", x.orders(0), 3);
        x.seen(1, 2);
        is("by both", x.orders(0), 2);
        x.seen(0, 1);
        is("by both", x.orders(0), 1);
        x.seen(2, 1);
        is("against what was seen", x.orders(0), 0);
        x.seen(-1, 0);
        x.seen(2, 0);
        is("against AFTER", x.orders(0), 0);
        x.seen(-1, 0);
        x.man(0, 0);
        x.tool(0, 0, 0);
        tell(3, "tool 0 man 0 work 1 from 0 for 1;");
        x.hours(1);
        is("by what is done nothing", x.orders(0), 3);

        Doc.of(THOUGHT, "the first (the lesser WORK first).");
        tell(2, "work 0 takes 1;work 0 takes 1;work 0 takes 1 after 1;work 0 takes 1;");
        is("0 1 2 3", order(4), 123);
        x.seen(2, 0);
        is("1 2 0 3", order(4), 1203);
        x.seen(3, 1);
        is("3 1 2 0", order(4), 3120);
        x.seen(0, 3);
        is("none", x.orders(10), -1);
    }

    private static int order(int works) {
        int all = 0;
        for (int i = 0; i < works; i++) {
            all = 10 * all + x.orders(10 + i);
        }
        return all;
    }

    private static void undo() {
        Doc.of(THOUGHT, "UNDO: the latest HOUR, SHARPENING, OILING, STRIKE, MAY told not undone yet goes back (STATE, THE BOOK, too): ");
        yard();
        x.set(5, 0, 1000);
        x.state(7);
        tell(3, "tool 0 man 0 work 0 from 0 for 2;");
        String[] was = new String[6];
        for (int i = 0; i < 6; i++) {
            was[i] = some();
            does(i);
        }
        for (int i = 5; i >= 0; i--) {
            is("what was told differs", some().equals(was[i]), false);
            is("undo()", x.undo(), true);
            is("it is as it was ahead of " + i, some().equals(was[i]), true);
        }
        is("state", x.look(6), 7);
        is("book", x.look(5), 0);
        is("nothing is left", x.undo(), false);
        x.mend(0, true);
        x.mend(1, true);
        x.undo();
        x.mend(2, true);
        is("one that is undone already is not counted", x.look(10), 2);
        x.undo();
        x.undo();
        is("moods", x.of(0, 4) + x.of(1, 4) + x.of(2, 4), 150);
        is("nothing is left", x.undo(), false);

        Doc.of(THOUGHT, "6 are kept; ");
        for (int many = 5; many <= 8; many++) {
            yard();
            for (int i = 0; i < many; i++) {
                x.strike(0, i % 2 == 0);
            }
            is("look(10)", x.look(10), Math.min(many, 6));
            for (int i = 0; i < Math.min(many, 6); i++) {
                is("undo()", x.undo(), true);
            }
            is("one more", x.undo(), false);
            is("what is too old stays", x.look(4), many == 7 ? 1 : 0);
        }
        yard();
        x.hours(8);
        x.undo();
        x.undo();
        x.undo();
        x.hours(5);
        is("look(10)", x.look(10), 6);
        for (int i = 0; i < 6; i++) {
            is("undo()", x.undo(), true);
        }
        is("undo()", x.undo(), false);
        is("look(3)", x.look(3), 4);
    }

    private static String some() {
        StringBuilder s = new StringBuilder();
        for (int what = 3; what < 7; what++) {
            s.append(x.look(what)).append(' ');
        }
        for (int i = 0; i < 3; i++) {
            s.append(x.of(i, 3)).append(' ').append(x.of(i, 4)).append(' ').append(x.of(i, 7)).append(' ').append(x.of(i, 8)).append(' ')
                .append(x.look(20 + i)).append(' ').append(x.work(i, 3)).append(' ');
        }
        return s.toString();
    }

    /** One of what can be undone. */
    private static void does(int i) {
        boolean done = true;
        switch (i) {
            case 0:
                done = x.hours(1) >= 0;
                break;
            case 1:
                done = x.mend(0, false);
                break;
            case 2:
                done = x.mend(0, true);
                break;
            case 3:
                done = x.strike(3, true);
                break;
            case 4:
                done = x.may(1, 1, false);
                break;
            default:
                done = x.hours(1) >= 0;
                break;
        }
        is("it is done", done, true);
    }

    private static void undoForgets() {
        Doc.of(THOUGHT, "whatever else is told but LAWS, SEEN (the taking of THE IMAGE does not) forgets them.");
        yard();
        x.image(true);
        for (int i = 0; i < 13; i++) {
            x.mend(0, true);
            is("look(10)", x.look(10), 1);
            tells(i);
            is("forgotten by " + i, x.look(10), 0);
            is("undo()", x.undo(), false);
        }
        x.mend(0, true);
        tell(0, "will;");
        tell(1, "wear 1;");
        x.seen(1, 0);
        x.seen(-1, 0);
        x.image(true);
        x.feed(0, 0, 0, 0, 0);
        x.end(0);
        is("not by laws, what was seen, the taking of the image", x.look(10), 1);
        tell(2, "work");
        tell(3, "tool");
        x.text(4);
        x.set(0, 0, 100);
        x.set(7, 0, 0);
        x.tool(4, 0, 0);
        x.man(100, 0);
        x.hours(61);
        x.mend(8, true);
        x.strike(0, false);
        x.may(0, 0, true);
        is("not by what can't be told", x.look(10), 1);
        is("undo()", x.undo(), true);
    }

    private static void tells(int i) {
        switch (i) {
            case 7:
                x.state(0);
                break;
            case 8:
                is("a tool", x.tool(0, 0, 0) > 0, true);
                break;
            case 9:
                is("a man", x.man(0, 0) > 0, true);
                break;
            case 10:
                is("a hull", tell(2, "work 0 takes 1;work 0 takes 1;"), 2);
                break;
            case 11:
                is("a rota", tell(3, ""), 0);
                break;
            case 12:
                is("an image", x.image(false), true);
                break;
            default:
                is("set", x.set(i, 0, 1), true);
                break;
        }
    }

    private static void image() {
        Doc.of(THOUGHT, "THE IMAGE: all that is and was told ");
        yard();
        x.state(3);
        x.set(5, 0, 300);
        tell(0, "wont when skill=30;");
        tell(1, "wear 3;like 7;");
        tell(3, "tool 0 man 0 work 0 from 0 for 3;tool 0 man 1 work 2 from 2 for 1;");
        x.seen(0, 2);
        x.hours(2);
        x.strike(3, true);
        x.may(0, 3, false);
        String was = all();
        int first = order(3);
        x.image(true);
        ruin();
        is("all is another", all().equals(was), false);
        x.image(false);
        x.text(0 - 1);
        x.image(false);
        x.strike(3, false);
        x.strike(3, true);
        x.may(0, 3, true);
        x.may(0, 3, false);
        is("what can be undone is other than it was", x.look(10), 4);
        x.image(false);
        imageIs(was);
        is("the first order", order(3), first);
        is("the book", 1000 * x.book(1, 0) + 100 * x.book(1, 1) + 10 * x.book(1, 2) + x.book(1, 3), 1000);
        imageOfTheBook();

        Doc.of(THOUGHT, "but the TAPE, fault() and what can be undone (nothing then), ");
        yard();
        x.mend(0, true);
        Due.feed(x, "will");
        x.image(true);
        is("the taking forgets nothing", x.look(10), 1);
        x.end(3);
        x.mend(0, true);
        x.image(false);
        is("nothing then", x.look(10), 0);
        is("undo()", x.undo(), false);
        is("the tape is no longer", x.end(4), false);
        is("the tape stays", x.end(3), true);
        is("it is told", x.text(1), -1);
        x.image(false);
        is("the fault stays", x.fault(0), 1);
        is("its place stays", x.fault(1), 0);

        Doc.of(THOUGHT, "as it was when it was taken; ");
        yard();
        x.set(0, 0, 33);
        x.image(true);
        x.set(0, 0, 44);
        x.image(false);
        is("edge", x.of(0, 3), 33);
        x.set(0, 0, 55);
        x.image(true);
        x.set(0, 0, 66);
        x.image(false);
        is("the latest one", x.of(0, 3), 55);

        Doc.of(THOUGHT, "gone back to it may be more than once.");
        for (int i = 0; i < 3; i++) {
            x.set(0, 0, 66 + i);
            x.hours(1);
            is("image(false)", x.image(false), true);
            is("edge", x.of(0, 3), 55);
            is("hour", x.look(3), 0);
        }

        Doc.of(THOUGHT, "The constants: `NONE = -1`: None.");
        is("NONE", ToolUnion.NONE, -1);
    }

    /** Lines that were undone and written anew since then go back, too. */
    private static void imageOfTheBook() {
        yard();
        tell(3, "tool 0 man 0 work 0 from 0 for 1;tool 1 man 1 work 2 from 0 for 1;");
        x.hours(1);
        x.image(true);
        x.undo();
        tell(3, "tool 1 man 1 work 0 from 0 for 1;tool 0 man 0 work 2 from 0 for 1;");
        x.hours(1);
        is("the first line", 100 * x.book(0, 1) + 10 * x.book(0, 2) + x.book(0, 3), 110);
        x.image(false);
        is("the first line", 100 * x.book(0, 1) + 10 * x.book(0, 2) + x.book(0, 3), 0);
        is("the second line", 100 * x.book(1, 1) + 10 * x.book(1, 2) + x.book(1, 3), 112);
        is("the rota", x.runs(1, 1), 0);
        tell(3, "");
        tell(2, "work 0 takes 1;work 0 takes 1;work 0 takes 1;");
        x.seen(0, 1);
        x.seen(0, 2);
        x.image(true);
        tell(2, "work 0 takes 1;work 0 takes 1;work 0 takes 1;");
        x.seen(2, 1);
        x.seen(1, 0);
        is("the order", order(3), 210);
        x.image(false);
        is("the orders", x.orders(0), 2);
        is("the order", order(3), 12);
    }

    /** Everything told is told anew. */
    private static void ruin() {
        x.state(4);
        x.tool(3, 3, 1);
        x.man(1, 1);
        for (int what = 0; what < 4; what++) {
            x.set(what, 0, 4);
        }
        x.set(4, 0, 4);
        x.set(5, 0, 4);
        x.set(6, 0, 4);
        x.strike(3, false);
        x.strike(2, true);
        x.may(0, 3, true);
        x.may(2, 2, false);
        x.hours(3);
        x.seen(2, 0);
        tell(0, "");
        tell(1, "");
        for (int i = 0; i < 5; i++) {
            x.undo();
        }
        tell(2, "work 1 takes 3;work 1 takes 3;work 1 takes 3;");
        x.seen(2, 1);
        x.seen(1, 0);
        tell(3, "tool 2 man 1 work 2 from 0 for 9;tool 2 man 0 work 1 from 0 for 9;");
        x.hours(3);
    }

    private static void imageIs(String was) {
        is("as all was, but what can be undone", withoutUndo(all()).equals(withoutUndo(was)), true);
    }

    /** What all() tells, but look(10). */
    private static String withoutUndo(String all) {
        String[] s = all.split(" ");
        s[10] = "";
        return String.join(" ", s);
    }
}
