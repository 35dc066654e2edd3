/**
 * The union of the tools in a shipyard: who serves whom by a law that is told as a text, a hull and a rota as texts,
 * the hours that go by, and what can be known of them in thought.
 */
public final class ToolUnion {
    public static final int NONE = -1;

    private static final int MOST_TOOLS = 8;
    private static final int MOST_MEN = 4;
    private static final int KINDS = 4;
    private static final int BRANCHES = 4;
    private static final int ALL_KINDS = 15;
    private static final int KIND_SETS = 16;
    private static final int MOST_WORKS = 8;
    private static final int WORK_SETS = 256;
    private static final int MOST_TAKES = 3;
    private static final int LAW_LINES = 16;
    private static final int ROTA_LINES = 20;
    private static final int BOOK_LINES = 200;
    private static final int MOST_SEEN = 12;
    private static final int MOST_KEPT = 6;
    private static final int TAPE_BYTES = 400;
    private static final int LAST_HOUR = 9999;
    private static final int MOST_HOURS = 60;
    private static final int LONGEST = 99;
    private static final int NO_DAY = 7;
    private static final int MOST_RUST = 1000;
    private static final int MOST_QUOTA = 80;

    private static final int WEAR = 0;
    private static final int MOOD = 1;
    private static final int LIKE = 2;

    private final Yard yard = new Yard();
    private final Yard kept = new Yard();
    private boolean imaged;
    private final Moves thought = new Moves();
    private final Moves[] past = new Moves[MOST_KEPT];
    private int pastCount;
    private int pastNext;
    private final Reader reader = new Reader();
    private final Judge judge = new Judge();
    private final Shift shift = new Shift();
    private final Planner planner = new Planner();
    private final Mates mates = new Mates();

    public ToolUnion() {
        for (int i = 0; i < MOST_KEPT; i++) {
            past[i] = new Moves();
        }
    }

    // ---- what is told ----

    public int state(int v) {
        int was = yard.moves.draws;
        yard.moves.draws = v;
        forget();
        return was;
    }

    public int tool(int kind, int branch, int left) {
        Crew crew = yard.crew;
        int one = crew.tools;
        if (one >= MOST_TOOLS || !isWithin(kind, KINDS - 1) || !isWithin(branch, BRANCHES - 1) || !isWithin(left, 1)) {
            return NONE;
        }
        crew.kind[one] = kind;
        crew.branch[one] = branch;
        crew.left[one] = left;
        crew.votes[one] = 1;
        crew.off[one] = NO_DAY;
        crew.tools = one + 1;
        yard.moves.begin(one);
        forget();
        return one;
    }

    public int man(int skill, int left) {
        Crew crew = yard.crew;
        int one = crew.men;
        if (one >= MOST_MEN || !isWithin(skill, 99) || !isWithin(left, 1)) {
            return NONE;
        }
        crew.skill[one] = skill;
        crew.manLeft[one] = left;
        crew.men = one + 1;
        forget();
        return one;
    }

    public boolean set(int what, int who, int v) {
        boolean can = canSet(what, who, v);
        if (can) {
            change(what, who, v);
            forget();
        }
        return can;
    }

    private boolean canSet(int what, int who, int v) {
        switch (what) {
            case 0:
            case 1:
                return isTool(who) && isWithin(v, 99);
            case 2:
                return isTool(who) && isWithin(v, 9);
            case 3:
                return isTool(who) && isWithin(v, NO_DAY);
            case 4:
                return isMan(who) && isWithin(v, 99);
            case 5:
                return isWithin(v, MOST_RUST);
            case 6:
                return v >= 1 && v <= MOST_QUOTA;
            default:
                return false;
        }
    }

    private void change(int what, int who, int v) {
        int one = who & (MOST_TOOLS - 1);
        switch (what) {
            case 0:
                yard.moves.edge[one] = v;
                break;
            case 1:
                yard.moves.mood[one] = v;
                break;
            case 2:
                yard.crew.votes[one] = v;
                break;
            case 3:
                yard.crew.off[one] = v;
                break;
            case 4:
                yard.crew.skill[who & (MOST_MEN - 1)] = v;
                break;
            case 5:
                yard.crew.rust = v;
                break;
            default:
                yard.crew.quota = v;
                break;
        }
    }

    public boolean mend(int tool, boolean oil) {
        if (!isTool(tool)) {
            return false;
        }
        keep();
        if (oil) {
            yard.moves.cheer(tool, 10);
        } else {
            yard.moves.sharpen(tool, 20);
            yard.moves.cheer(tool, -5);
        }
        return true;
    }

    public boolean strike(int branch, boolean does) {
        if (!isWithin(branch, BRANCHES - 1) || isIn(yard.moves.strikes, branch) == does) {
            return false;
        }
        keep();
        yard.moves.strikes = with(yard.moves.strikes, branch, does);
        return true;
    }

    public boolean may(int branch, int kind, boolean is) {
        if (!isWithin(branch, BRANCHES - 1) || !isWithin(kind, KINDS - 1)) {
            return false;
        }
        int allowed = yard.moves.allowed[branch];
        if (isIn(allowed, kind) == is) {
            return false;
        }
        keep();
        yard.moves.allowed[branch] = with(allowed, kind, is);
        return true;
    }

    public int hours(int n) {
        if (n < 1 || n > MOST_HOURS || yard.moves.hour + n > LAST_HOUR) {
            return NONE;
        }
        shift.begin();
        for (int i = 0; i < n; i++) {
            keep();
            shift.pass(yard, yard.moves, judge, true);
        }
        return shift.refused;
    }

    // ---- texts ----

    public int feed(int a, int b, int c, int d, int e) {
        if (reader.length + 20 > TAPE_BYTES) {
            return NONE;
        }
        reader.append(a);
        reader.append(b);
        reader.append(c);
        reader.append(d);
        reader.append(e);
        return reader.length;
    }

    public boolean end(int n) {
        if (n < 0 || n > reader.length) {
            return false;
        }
        reader.length = n;
        return true;
    }

    public int text(int k) {
        reader.begin();
        int count = NONE;
        switch (k) {
            case 0:
                count = reader.tellLaw(yard.serving, false);
                break;
            case 1:
                count = reader.tellLaw(yard.edges, true);
                break;
            case 2:
                count = tellHull();
                break;
            case 3:
                count = tellRota();
                break;
            default:
                break;
        }
        reader.length = 0;
        return count;
    }

    private int tellHull() {
        if (!reader.readHull()) {
            return NONE;
        }
        yard.hull.copy(reader.hull);
        yard.hull.seen = 0;
        yard.rota.count = 0;
        yard.moves.beginWorks();
        forget();
        return yard.hull.count;
    }

    private int tellRota() {
        if (!reader.readRota(yard)) {
            return NONE;
        }
        yard.rota.copy(reader.rota);
        forget();
        return yard.rota.count;
    }

    public int fault(int what) {
        switch (what) {
            case 0:
                return reader.fault;
            case 1:
                return reader.faultPlace;
            default:
                return NONE;
        }
    }

    // ---- what is asked of one ----

    public int of(int tool, int what) {
        if (!isTool(tool)) {
            return NONE - 1;
        }
        switch (what) {
            case 0:
                return yard.crew.kind[tool];
            case 1:
                return yard.crew.branch[tool];
            case 2:
                return yard.crew.left[tool];
            case 3:
                return yard.moves.edge[tool];
            case 4:
                return yard.moves.mood[tool];
            case 5:
                return yard.crew.votes[tool];
            case 6:
                return yard.crew.off[tool];
            case 7:
                return yard.moves.today[tool];
            case 8:
                return yard.moves.served[tool];
            case 9:
                return yard.crew.turns(tool, false);
            case 10:
                return yard.crew.turns(tool, true);
            case 11:
                mates.match(yard, judge);
                return mates.manOf[tool];
            default:
                return NONE - 1;
        }
    }

    public int at(int man, int what) {
        if (!isMan(man)) {
            return NONE - 1;
        }
        switch (what) {
            case 0:
                return yard.crew.skill[man];
            case 1:
                return yard.crew.manLeft[man];
            case 2:
                mates.match(yard, judge);
                return mates.toolOf[man];
            default:
                return NONE - 1;
        }
    }

    public int work(int i, int what) {
        Hull hull = yard.hull;
        if (i < 0 || i >= hull.count || i >= MOST_WORKS) {
            return NONE - 1;
        }
        switch (what) {
            case 0:
                return hull.kind[i];
            case 1:
                return hull.takes[i];
            case 2:
                return hull.after[i];
            case 3:
                return yard.moves.done[i];
            case 4:
                return hull.isOpen(yard.moves, i) ? 1 : 0;
            case 5:
                return hull.isDone(yard.moves, i) ? 1 : 0;
            case 6:
                return judge.countHands(yard, hull.kind[i]);
            case 7:
                return judge.firstHand(yard, hull.kind[i]);
            case 8:
                return judge.firstServed(yard, judge.firstHand(yard, hull.kind[i]));
            default:
                return NONE - 1;
        }
    }

    public int serves(int tool, int man) {
        if (!isTool(tool) || !isMan(man)) {
            return NONE;
        }
        return judge.isServing(yard, yard.moves, tool, man) ? 1 : 0;
    }

    public int tells(int tool, int man, int what) {
        if (!isTool(tool) || !isMan(man) || !isWithin(what, LIKE)) {
            return NONE - 999;
        }
        return judge.whatEdgesTell(yard, yard.moves, tool, man, what);
    }

    public int book(int i, int what) {
        if (i < 0 || i >= yard.moves.lines || i >= BOOK_LINES || !isWithin(what, 3)) {
            return NONE;
        }
        return yard.book[4 * i + what];
    }

    // ---- in thought ----

    public int soonest(int what) {
        if (!isWithin(what, 1)) {
            return NONE;
        }
        int needed = yard.hull.kindsLeft(yard.moves);
        if ((needed & ~judge.kindsInHands(yard)) != 0) {
            return NONE;
        }
        planner.prepare(yard, judge);
        int first = planner.unfinished(yard);
        return what == 0 ? planner.hoursFor(yard.hull, first) : planner.firstSet(yard.hull, first);
    }

    public int few(int what) {
        if (!isWithin(what, 3)) {
            return NONE;
        }
        int needed = yard.hull.kindsLeft(yard.moves);
        int handy = judge.toolsInHands(yard);
        int set = what < 2 ? fewestToStop(needed, handy) : fewestToKeep(needed, handy);
        return set == NONE || (what & 1) == 1 ? set : Integer.bitCount(set);
    }

    /** A WORK has no HANDS without all the TOOLS of its KIND that serve somebody, and no others matter to it. */
    private int fewestToStop(int needed, int handy) {
        int best = NONE;
        for (int kind = 0; kind < KINDS; kind++) {
            if (isIn(needed, kind)) {
                int set = handy & yard.crew.toolsOf(1 << kind);
                if (best == NONE || isLess(set, best)) {
                    best = set;
                }
            }
        }
        return best;
    }

    /** One TOOL for each KIND is enough, and the lowest one of each makes the least set. */
    private int fewestToKeep(int needed, int handy) {
        int all = 0;
        for (int kind = 0; kind < KINDS; kind++) {
            if (isIn(needed, kind)) {
                int set = handy & yard.crew.toolsOf(1 << kind);
                if (set == 0) {
                    return NONE;
                }
                all |= Integer.lowestOneBit(set);
            }
        }
        return all;
    }

    private static boolean isLess(int set, int than) {
        int size = Integer.bitCount(set);
        int other = Integer.bitCount(than);
        return size < other || size == other && set < than;
    }

    public int changes(int what) {
        if (what != 0 && (what < 10 || what >= 10 + KINDS)) {
            return NONE;
        }
        int lacking = yard.hull.kindsLeft(yard.moves) & ~judge.kindsInHands(yard);
        for (int kind = 0; kind < KINDS; kind++) {
            if (isIn(lacking, kind) && judge.leastBranchWilling(yard, kind) == NONE) {
                return NONE;
            }
        }
        if (what == 0) {
            return Integer.bitCount(lacking);
        }
        return isIn(lacking, what - 10) ? judge.leastBranchWilling(yard, what - 10) : NONE;
    }

    public int vote(int tools) {
        if (tools < 0 || tools >= 1 << yard.crew.tools) {
            return NONE;
        }
        return yard.crew.agrees(tools) ? 1 : 0;
    }

    public int lasts(int tool, int man) {
        if (!isTool(tool) || !isMan(man)) {
            return NONE;
        }
        thought.copy(yard.moves);
        for (int i = 0; i <= LONGEST; i++) {
            if (thought.edge[tool] == 0) {
                return i;
            }
            judge.workAnHour(yard, thought, tool, man);
        }
        return NONE;
    }

    public int runs(int n, int what) {
        if (n < 1 || n > LONGEST || !isWithin(what, 3)) {
            return NONE;
        }
        think(n);
        switch (what) {
            case 0:
                return shift.worked;
            case 1:
                return shift.refused;
            case 2:
                return shift.firstHour;
            default:
                return shift.firstLine;
        }
    }

    public int idle(int n) {
        if (n < 1 || n > LONGEST) {
            return NONE;
        }
        think(n);
        return yard.crew.allTools() & ~shift.ever;
    }

    private void think(int n) {
        thought.copy(yard.moves);
        shift.begin();
        for (int i = 0; i < n; i++) {
            shift.pass(yard, thought, judge, false);
        }
    }

    public int dull(int tool, int n) {
        if (!isTool(tool) || n < 0 || n > LONGEST) {
            return NONE;
        }
        think(0);
        for (int i = 0; i <= n; i++) {
            if (thought.edge[tool] == 0) {
                return i;
            }
            shift.pass(yard, thought, judge, false);
        }
        return NONE;
    }

    public int loved() {
        return mates.mostLoved(yard, judge);
    }

    public int ready() {
        think(0);
        for (int i = 0; i <= LONGEST; i++) {
            if (yard.hull.kindsLeft(thought) == 0) {
                return thought.hour;
            }
            shift.pass(yard, thought, judge, false);
        }
        return NONE;
    }

    public int seen(int a, int b) {
        Hull hull = yard.hull;
        if (a == NONE) {
            hull.seen = 0;
            return 0;
        }
        if (a < 0 || a >= hull.count || b < 0 || b >= hull.count || a == b || hull.seen >= MOST_SEEN) {
            return NONE;
        }
        hull.first[hull.seen] = a;
        hull.second[hull.seen] = b;
        hull.seen++;
        return hull.seen;
    }

    public int orders(int what) {
        if (what == 0) {
            return yard.hull.countOrders();
        }
        if (what < 10 || what >= 10 + yard.hull.count || yard.hull.countOrders() == 0) {
            return NONE;
        }
        return yard.hull.inFirstOrder(what - 10);
    }

    // ---- back ----

    public boolean undo() {
        if (pastCount == 0) {
            return false;
        }
        pastNext = (pastNext + MOST_KEPT - 1) % MOST_KEPT;
        pastCount--;
        yard.moves.copy(past[pastNext]);
        return true;
    }

    private void keep() {
        past[pastNext].copy(yard.moves);
        pastNext = (pastNext + 1) % MOST_KEPT;
        pastCount = Math.min(pastCount + 1, MOST_KEPT);
    }

    private void forget() {
        pastCount = 0;
    }

    public boolean image(boolean taken) {
        if (taken) {
            kept.copy(yard);
            imaged = true;
            return true;
        }
        if (!imaged) {
            return false;
        }
        yard.copy(kept);
        forget();
        return true;
    }

    public int look(int what) {
        if (what >= 20 && what < 20 + BRANCHES) {
            return yard.moves.allowed[what - 20];
        }
        switch (what) {
            case 0:
                return yard.crew.tools;
            case 1:
                return yard.crew.men;
            case 2:
                return yard.hull.count;
            case 3:
                return yard.moves.hour;
            case 4:
                return yard.moves.strikes;
            case 5:
                return yard.moves.lines;
            case 6:
                return yard.moves.draws;
            case 7:
                return yard.serving.count;
            case 8:
                return yard.edges.count;
            case 9:
                return yard.rota.count;
            case 10:
                return pastCount;
            case 11:
                return yard.hull.seen;
            case 12:
                return yard.crew.rust;
            case 13:
                return yard.crew.quota;
            default:
                return NONE;
        }
    }

    // ---- small things ----

    private boolean isTool(int i) {
        return i >= 0 && i < yard.crew.tools && i < MOST_TOOLS;
    }

    private boolean isMan(int i) {
        return i >= 0 && i < yard.crew.men && i < MOST_MEN;
    }

    private static boolean isWithin(int v, int most) {
        return v >= 0 && v <= most;
    }

    private static boolean isIn(int set, int i) {
        return (set >> i & 1) == 1;
    }

    private static int with(int set, int i, boolean is) {
        return is ? set | 1 << i : set & ~(1 << i);
    }

    private static int held(int v, int least, int most) {
        return Math.max(least, Math.min(most, v));
    }

    private static void copyRow(int[] from, int[] to) {
        System.arraycopy(from, 0, to, 0, Math.min(from.length, to.length));
    }

    /** TOOLS and MEN as they were told; what hours change of them stands in Moves. */
    private static final class Crew {
        private static final int[] ORDERS_OF = {1, 1, 2, 6, 24, 120, 720, 5040};

        int tools;
        int men;
        int rust;
        int quota = 1;
        final int[] kind = new int[MOST_TOOLS];
        final int[] branch = new int[MOST_TOOLS];
        final int[] left = new int[MOST_TOOLS];
        final int[] votes = new int[MOST_TOOLS];
        final int[] off = new int[MOST_TOOLS];
        final int[] skill = new int[MOST_MEN];
        final int[] manLeft = new int[MOST_MEN];

        void copy(Crew other) {
            tools = other.tools;
            men = other.men;
            rust = other.rust;
            quota = other.quota;
            copyRow(other.kind, kind);
            copyRow(other.branch, branch);
            copyRow(other.left, left);
            copyRow(other.votes, votes);
            copyRow(other.off, off);
            copyRow(other.skill, skill);
            copyRow(other.manLeft, manLeft);
        }

        int allTools() {
            return (1 << tools) - 1;
        }

        int toolsOf(int kinds) {
            int set = 0;
            for (int i = 0; i < tools && i < MOST_TOOLS; i++) {
                if (isIn(kinds, kind[i])) {
                    set |= 1 << i;
                }
            }
            return set;
        }

        boolean agrees(int set) {
            int sum = 0;
            for (int i = 0; i < MOST_TOOLS; i++) {
                if (isIn(set, i)) {
                    sum += votes[i];
                }
            }
            return sum >= quota;
        }

        /** The sets of the other TOOLS that agree only with this one: how many, or the orders in which just they come first. */
        int turns(int one, boolean asOrders) {
            int sum = 0;
            int own = 1 << one;
            for (int set = 0; set <= allTools(); set++) {
                if ((set & own) == 0 && !agrees(set) && agrees(set | own)) {
                    sum += asOrders ? ordersWith(Integer.bitCount(set)) : 1;
                }
            }
            return sum;
        }

        private int ordersWith(int ahead) {
            int behind = tools - 1 - ahead;
            return ORDERS_OF[ahead & 7] * ORDERS_OF[behind & 7];
        }
    }

    /** All that an hour, mending, a strike or MAY change: so all that goes back with an undoing, or is moved in thought. */
    private static final class Moves {
        final int[] edge = new int[MOST_TOOLS];
        final int[] mood = new int[MOST_TOOLS];
        final int[] today = new int[MOST_TOOLS];
        final int[] served = new int[MOST_TOOLS];
        final int[] done = new int[MOST_WORKS];
        final int[] allowed = new int[BRANCHES];
        int hour;
        int draws;
        int strikes;
        int lines;

        Moves() {
            for (int i = 0; i < BRANCHES; i++) {
                allowed[i] = ALL_KINDS;
            }
        }

        void copy(Moves other) {
            copyRow(other.edge, edge);
            copyRow(other.mood, mood);
            copyRow(other.today, today);
            copyRow(other.served, served);
            copyRow(other.done, done);
            copyRow(other.allowed, allowed);
            hour = other.hour;
            draws = other.draws;
            strikes = other.strikes;
            lines = other.lines;
        }

        void begin(int tool) {
            edge[tool] = 60;
            mood[tool] = 50;
            today[tool] = 0;
            served[tool] = 0;
        }

        void beginWorks() {
            for (int i = 0; i < MOST_WORKS; i++) {
                done[i] = 0;
            }
        }

        void sharpen(int tool, int by) {
            edge[tool] = held(edge[tool] + by, 0, 99);
        }

        void cheer(int tool, int by) {
            mood[tool] = held(mood[tool] + by, 0, 99);
        }

        int draw(int m) {
            draws = draws * 1664525 + 1013904223;
            return m <= 0 ? 0 : (draws >>> 8) % m;
        }

        int bell() {
            return hour % 8;
        }

        int weekday() {
            return hour / 8 % 7;
        }

        void nextHour() {
            hour++;
            if (bell() == 0) {
                for (int i = 0; i < MOST_TOOLS; i++) {
                    today[i] = 0;
                }
            }
        }
    }

    /** WORKS as they were told, and what was SEEN of them. */
    private static final class Hull {
        int count;
        final int[] kind = new int[MOST_WORKS];
        final int[] takes = new int[MOST_WORKS];
        final int[] after = new int[MOST_WORKS];
        int seen;
        final int[] first = new int[MOST_SEEN];
        final int[] second = new int[MOST_SEEN];
        private final int[] ahead = new int[MOST_WORKS];
        private final int[] ways = new int[WORK_SETS];

        void copy(Hull other) {
            count = other.count;
            copyRow(other.kind, kind);
            copyRow(other.takes, takes);
            copyRow(other.after, after);
            seen = other.seen;
            copyRow(other.first, first);
            copyRow(other.second, second);
        }

        boolean isDone(Moves moves, int i) {
            return moves.done[i] >= takes[i];
        }

        boolean isOpen(Moves moves, int i) {
            if (isDone(moves, i)) {
                return false;
            }
            for (int j = 0; j < i; j++) {
                if (isIn(after[i], j) && !isDone(moves, j)) {
                    return false;
                }
            }
            return true;
        }

        int kindsLeft(Moves moves) {
            int kinds = 0;
            for (int i = 0; i < count && i < MOST_WORKS; i++) {
                if (!isDone(moves, i)) {
                    kinds |= 1 << kind[i];
                }
            }
            return kinds;
        }

        int worksOf(int kinds) {
            int set = 0;
            for (int i = 0; i < count && i < MOST_WORKS; i++) {
                if (isIn(kinds, kind[i])) {
                    set |= 1 << i;
                }
            }
            return set;
        }

        private int aheadOf(int i) {
            int set = after[i];
            for (int j = 0; j < seen && j < MOST_SEEN; j++) {
                if (second[j] == i) {
                    set |= 1 << first[j];
                }
            }
            return set;
        }

        /** Each set of WORKS is counted as those that were done first, by which of them came last. */
        int countOrders() {
            for (int i = 0; i < MOST_WORKS; i++) {
                ahead[i] = aheadOf(i);
            }
            int all = (1 << count) - 1;
            ways[0] = 1;
            for (int set = 1; set <= all && set < WORK_SETS; set++) {
                ways[set] = waysTo(set);
            }
            return ways[all & (WORK_SETS - 1)];
        }

        private int waysTo(int set) {
            int sum = 0;
            for (int i = 0; i < MOST_WORKS; i++) {
                int rest = set & ~(1 << i);
                if (rest != set && (ahead[i] & ~rest) == 0) {
                    sum += ways[rest & (WORK_SETS - 1)];
                }
            }
            return sum;
        }

        /** The least WORK that can come next always leaves an order for the others, if there is one at all. */
        int inFirstOrder(int place) {
            int before = 0;
            int next = NONE;
            for (int i = 0; i <= place && i < MOST_WORKS; i++) {
                next = leastAfter(before);
                if (next == NONE) {
                    return NONE;
                }
                before |= 1 << next;
            }
            return next;
        }

        private int leastAfter(int before) {
            for (int i = 0; i < count && i < MOST_WORKS; i++) {
                if (!isIn(before, i) && (aheadOf(i) & ~before) == 0) {
                    return i;
                }
            }
            return NONE;
        }
    }

    /** A ROTA as it was told. */
    private static final class Rota {
        int count;
        final int[] tool = new int[ROTA_LINES];
        final int[] man = new int[ROTA_LINES];
        final int[] work = new int[ROTA_LINES];
        final int[] from = new int[ROTA_LINES];
        final int[] span = new int[ROTA_LINES];

        void copy(Rota other) {
            count = other.count;
            copyRow(other.tool, tool);
            copyRow(other.man, man);
            copyRow(other.work, work);
            copyRow(other.from, from);
            copyRow(other.span, span);
        }

        boolean isOn(int line, int hour) {
            return hour >= from[line] && hour < from[line] + span[line];
        }
    }

    /**
     * A LAW as it was told: each line a word, the code of its E and the code of its B, one behind the other.
     * The code is for a stack: an operation stands behind what it is done to.
     */
    private static final class Law {
        // the first two put one on the stack, the next two change the topmost, all others make one of the two topmost
        static final int NUMBER = 0;
        static final int FACT = 1;
        static final int PART = 2;
        static final int NOT = 3;
        static final int PLUS = 4;
        static final int MINUS = 5;
        static final int TIMES = 6;
        static final int BELOW = 7;
        static final int ALIKE = 8;
        static final int ABOVE = 9;
        static final int AND = 10;
        static final int OR = 11;

        int count;
        int size;
        final int[] word = new int[LAW_LINES];
        final int[] start = new int[LAW_LINES];
        final int[] when = new int[LAW_LINES];
        final int[] stop = new int[LAW_LINES];
        final int[] code = new int[TAPE_BYTES];

        void copy(Law other) {
            count = other.count;
            size = other.size;
            copyRow(other.word, word);
            copyRow(other.start, start);
            copyRow(other.when, when);
            copyRow(other.stop, stop);
            copyRow(other.code, code);
        }

        void put(int operation, int with) {
            if (size < TAPE_BYTES) {
                code[size] = operation | with << 4;
                size++;
            }
        }
    }

    /** All that THE IMAGE has. */
    private static final class Yard {
        final Crew crew = new Crew();
        final Moves moves = new Moves();
        final Hull hull = new Hull();
        final Rota rota = new Rota();
        final Law serving = new Law();
        final Law edges = new Law();
        final int[] book = new int[4 * BOOK_LINES];

        void copy(Yard other) {
            crew.copy(other.crew);
            moves.copy(other.moves);
            hull.copy(other.hull);
            rota.copy(other.rota);
            serving.copy(other.serving);
            edges.copy(other.edges);
            copyRow(other.book, book);
        }
    }

    /** Asks the LAWS: in the yard as it is, or with the moves of a thought. */
    private static final class Judge {
        private static final int DEPTH = 64;
        private static final int FACTS = 10;

        private final int[] stack = new int[DEPTH];
        private final int[] facts = new int[FACTS];

        boolean isServing(Yard yard, Moves moves, int tool, int man) {
            boolean may = isIn(moves.allowed[yard.crew.branch[tool] & 3], yard.crew.kind[tool]);
            return may && isWilling(yard, moves, tool, man);
        }

        /** As if its BRANCH MAY its KIND. */
        private boolean isWilling(Yard yard, Moves moves, int tool, int man) {
            if (isIn(moves.strikes, yard.crew.branch[tool]) || yard.crew.off[tool] == moves.weekday() || moves.edge[tool] <= 0) {
                return false;
            }
            learn(yard, moves, tool, man);
            int line = firstLine(yard.serving, NONE);
            return line == NONE || yard.serving.word[line] == Reader.WILL;
        }

        int whatEdgesTell(Yard yard, Moves moves, int tool, int man, int what) {
            learn(yard, moves, tool, man);
            Law law = yard.edges;
            int line = firstLine(law, Reader.WEARS + what);
            int told = what == WEAR ? 1 : 0;
            if (line != NONE) {
                told = reckon(law, law.start[line], law.when[line]);
            }
            switch (what) {
                case WEAR:
                    return held(told, 0, 20);
                case MOOD:
                    return held(told, -20, 20);
                default:
                    return held(told, -999, 999);
            }
        }

        /** What an hour of work does to a TOOL; both are asked before either is done, since a LAW may ask for EDGE and MOOD. */
        void workAnHour(Yard yard, Moves moves, int tool, int man) {
            int wear = whatEdgesTell(yard, moves, tool, man, WEAR);
            int mood = whatEdgesTell(yard, moves, tool, man, MOOD);
            moves.sharpen(tool, -wear);
            moves.cheer(tool, mood);
            moves.today[tool]++;
            moves.served[tool]++;
        }

        /** In the order of the words in Reader.WORDS. */
        private void learn(Yard yard, Moves moves, int tool, int man) {
            facts[0] = yard.crew.skill[man];
            facts[1] = moves.edge[tool];
            facts[2] = moves.mood[tool];
            facts[3] = moves.today[tool];
            facts[4] = yard.crew.kind[tool];
            facts[5] = yard.crew.left[tool] == yard.crew.manLeft[man] ? 1 : 0;
            facts[6] = yard.crew.branch[tool];
            facts[7] = moves.bell();
            facts[8] = moves.weekday();
            facts[9] = moves.served[tool];
        }

        /** The first line with that word (NONE: with any) whose B is so or that has none. */
        private int firstLine(Law law, int word) {
            for (int i = 0; i < law.count && i < LAW_LINES; i++) {
                if (word == NONE || law.word[i] == word) {
                    if (law.when[i] == law.stop[i] || reckon(law, law.when[i], law.stop[i]) == 1) {
                        return i;
                    }
                }
            }
            return NONE;
        }

        /** All in one method, since it stands at the end of the longest chain of calls. */
        private int reckon(Law law, int from, int to) {
            int top = 0;
            for (int i = from; i >= 0 && i < to && i < TAPE_BYTES; i++) {
                int operation = law.code[i] & 15;
                int with = law.code[i] >> 4;
                if (operation <= Law.FACT) {
                    if (top >= DEPTH || operation == Law.FACT && (with < 0 || with >= FACTS)) {
                        return 0;
                    }
                    stack[top] = operation == Law.FACT ? facts[with] : with;
                    top++;
                } else if (operation <= Law.NOT) {
                    if (top < 1 || operation == Law.PART && with == 0) {
                        return 0;
                    }
                    stack[top - 1] = operation == Law.NOT ? 1 - stack[top - 1] : stack[top - 1] / with;
                } else {
                    if (top < 2) {
                        return 0;
                    }
                    top--;
                    int one = stack[top - 1];
                    int two = stack[top];
                    switch (operation) {
                        case Law.PLUS:
                            stack[top - 1] = one + two;
                            break;
                        case Law.MINUS:
                            stack[top - 1] = one - two;
                            break;
                        case Law.TIMES:
                            stack[top - 1] = one * two;
                            break;
                        case Law.BELOW:
                            stack[top - 1] = one < two ? 1 : 0;
                            break;
                        case Law.ALIKE:
                            stack[top - 1] = one == two ? 1 : 0;
                            break;
                        case Law.ABOVE:
                            stack[top - 1] = one > two ? 1 : 0;
                            break;
                        case Law.AND:
                            stack[top - 1] = one & two;
                            break;
                        default:
                            stack[top - 1] = one | two;
                            break;
                    }
                }
            }
            return top > 0 ? stack[0] : 0;
        }

        /** The TOOLS that serve a MAN now. */
        int toolsServing(Yard yard, int man) {
            int set = 0;
            for (int i = 0; i < yard.crew.tools && i < MOST_TOOLS; i++) {
                if (isServing(yard, yard.moves, i, man)) {
                    set |= 1 << i;
                }
            }
            return set;
        }

        /** The MAN of least number whom a TOOL serves now. */
        int firstServed(Yard yard, int tool) {
            if (tool < 0 || tool >= MOST_TOOLS) {
                return NONE;
            }
            for (int i = 0; i < yard.crew.men && i < MOST_MEN; i++) {
                if (isServing(yard, yard.moves, tool, i)) {
                    return i;
                }
            }
            return NONE;
        }

        /** The TOOLS that serve anybody now. */
        int toolsInHands(Yard yard) {
            int set = 0;
            for (int i = 0; i < yard.crew.men && i < MOST_MEN; i++) {
                set |= toolsServing(yard, i);
            }
            return set;
        }

        int kindsInHands(Yard yard) {
            int kinds = 0;
            int set = toolsInHands(yard);
            for (int i = 0; i < MOST_TOOLS; i++) {
                if (isIn(set, i)) {
                    kinds |= 1 << yard.crew.kind[i];
                }
            }
            return kinds;
        }

        int countHands(Yard yard, int kind) {
            int sum = 0;
            int tools = yard.crew.toolsOf(1 << kind);
            for (int i = 0; i < yard.crew.men && i < MOST_MEN; i++) {
                sum += Integer.bitCount(toolsServing(yard, i) & tools);
            }
            return sum;
        }

        int firstHand(Yard yard, int kind) {
            int set = toolsInHands(yard) & yard.crew.toolsOf(1 << kind);
            return set == 0 ? NONE : Integer.numberOfTrailingZeros(set);
        }

        /** The least BRANCH with a TOOL of this KIND that would serve somebody, if it might. */
        int leastBranchWilling(Yard yard, int kind) {
            int tools = yard.crew.toolsOf(1 << kind);
            int least = NONE;
            for (int i = 0; i < MOST_TOOLS; i++) {
                if (isIn(tools, i) && isWillingForAny(yard, i) && (least == NONE || yard.crew.branch[i] < least)) {
                    least = yard.crew.branch[i];
                }
            }
            return least;
        }

        private boolean isWillingForAny(Yard yard, int tool) {
            for (int i = 0; i < yard.crew.men && i < MOST_MEN; i++) {
                if (isWilling(yard, yard.moves, tool, i)) {
                    return true;
                }
            }
            return false;
        }
    }

    /** Lets hours go by, really or in thought, and counts what came of it. */
    private static final class Shift {
        int worked;
        int refused;
        int firstHour;
        int firstLine;
        int ever;
        private int toolsNow;
        private int menNow;

        void begin() {
            worked = 0;
            refused = 0;
            firstHour = NONE;
            firstLine = NONE;
            ever = 0;
        }

        /** In thought there is no rust, and nothing comes into THE BOOK. */
        void pass(Yard yard, Moves moves, Judge judge, boolean really) {
            toolsNow = 0;
            menNow = 0;
            for (int i = 0; i < yard.rota.count && i < ROTA_LINES; i++) {
                if (yard.rota.isOn(i, moves.hour)) {
                    goBy(yard, moves, judge, i, really);
                }
            }
            ever |= toolsNow;
            if (really && yard.crew.rust > 0) {
                rust(yard.crew, moves);
            }
            moves.nextHour();
        }

        private void goBy(Yard yard, Moves moves, Judge judge, int line, boolean really) {
            int tool = yard.rota.tool[line] & (MOST_TOOLS - 1);
            int man = yard.rota.man[line] & (MOST_MEN - 1);
            int work = yard.rota.work[line] & (MOST_WORKS - 1);
            boolean free = !isIn(toolsNow, tool) && !isIn(menNow, man);
            boolean fits = yard.hull.isOpen(moves, work) && yard.hull.kind[work] == yard.crew.kind[tool];
            if (!free || !fits || !judge.isServing(yard, moves, tool, man)) {
                refuse(moves.hour, line);
                return;
            }
            judge.workAnHour(yard, moves, tool, man);
            moves.done[work]++;
            toolsNow |= 1 << tool;
            menNow |= 1 << man;
            worked++;
            if (really) {
                write(yard, tool, man, work);
            }
        }

        private void refuse(int hour, int line) {
            if (refused == 0) {
                firstHour = hour;
                firstLine = line;
            }
            refused++;
        }

        private void write(Yard yard, int tool, int man, int work) {
            int line = yard.moves.lines;
            if (line >= 0 && line < BOOK_LINES) {
                yard.book[4 * line] = yard.moves.hour;
                yard.book[4 * line + 1] = tool;
                yard.book[4 * line + 2] = man;
                yard.book[4 * line + 3] = work;
                yard.moves.lines = line + 1;
            }
        }

        private void rust(Crew crew, Moves moves) {
            for (int i = 0; i < crew.tools && i < MOST_TOOLS; i++) {
                if (!isIn(toolsNow, i) && moves.edge[i] > 0 && moves.draw(1000) < crew.rust) {
                    moves.edge[i]--;
                }
            }
        }
    }

    /**
     * How soon a hull can be built. What is left to do is one number, two bits a WORK, the hours that it needs still.
     * By Rado's theorem a set of WORKS can go on in one hour just if, for every set of KINDS, no more of them are of
     * these KINDS than couples can work at once with TOOLS of these KINDS; such sets are those of a matroid, so the
     * largest ones among what is OPEN are all of one size, and none but those must be tried for the fewest hours.
     */
    private static final class Planner {
        private static final int FAR = 31;

        private final int[] toolsFor = new int[MOST_MEN];
        private final int[] couples = new int[KIND_SETS];
        private final int[] worksOf = new int[KIND_SETS];
        private final int[] chain = new int[MOST_WORKS];
        private final int[] inKind = new int[KINDS];
        /** The fewest hours from each state, with the stamp of the call for which they hold, so that no call must clear them. */
        private int[] known = new int[1];
        private int stamp;

        void prepare(Yard yard, Judge judge) {
            makeRoom(yard.hull.count);
            stamp++;
            for (int i = 0; i < MOST_MEN; i++) {
                toolsFor[i] = i < yard.crew.men ? judge.toolsServing(yard, i) : 0;
            }
            for (int kinds = 0; kinds < KIND_SETS; kinds++) {
                worksOf[kinds] = yard.hull.worksOf(kinds);
                couples[kinds] = couplesAtOnce(yard.crew.toolsOf(kinds));
            }
        }

        /** Most hulls are small, so the row grows only with the hull. */
        private void makeRoom(int works) {
            if (works >= 0 && works <= MOST_WORKS && known.length < 1 << 2 * works) {
                known = new int[1 << 2 * works];
            }
        }

        /** By Hall: the set of MEN that lacks most TOOLS for itself tells how many stay without one. */
        private int couplesAtOnce(int tools) {
            int least = MOST_MEN;
            for (int men = 1; men < 1 << MOST_MEN; men++) {
                int theirs = 0;
                for (int i = 0; i < MOST_MEN; i++) {
                    if (isIn(men, i)) {
                        theirs |= toolsFor[i] & tools;
                    }
                }
                least = Math.min(least, MOST_MEN - Integer.bitCount(men) + Integer.bitCount(theirs));
            }
            return least;
        }

        int unfinished(Yard yard) {
            int left = 0;
            for (int i = 0; i < yard.hull.count && i < MOST_WORKS; i++) {
                left |= (yard.hull.takes[i] - yard.moves.done[i] & 3) << 2 * i;
            }
            return left;
        }

        int hoursFor(Hull hull, int left) {
            return fewest(hull, left, 0);
        }

        /** Each hour does one hour of WORK at least, so it goes no deeper than all WORKS take: 24. */
        private int fewest(Hull hull, int left, int depth) {
            if (left == 0) {
                return 0;
            }
            if (left < 0 || left >= known.length || depth > MOST_WORKS * MOST_TAKES) {
                return FAR;
            }
            if (known[left] >> 5 != stamp) {
                known[left] = stamp << 5 | fewestByFirst(hull, left, depth);
            }
            return known[left] & 31;
        }

        private int fewestByFirst(Hull hull, int left, int depth) {
            int least = atLeast(hull, left);
            int open = openOf(hull, left);
            int size = mostAtOnce(open);
            int best = FAR;
            for (int set = open; set > 0 && best > least; set = set - 1 & open) {
                if (Integer.bitCount(set) == size && canGoOn(set)) {
                    best = Math.min(best, 1 + fewest(hull, left - spread(set), depth + 1));
                }
            }
            return best;
        }

        /** The least set is often not one of the largest: so here all are asked. */
        int firstSet(Hull hull, int left) {
            int rest = fewest(hull, left, 0) - 1;
            int open = openOf(hull, left);
            for (int set = 1; set <= open; set++) {
                if ((set & ~open) == 0 && canGoOn(set)) {
                    int next = left - spread(set);
                    if (atLeast(hull, next) <= rest && fewest(hull, next, 1) <= rest) {
                        return set;
                    }
                }
            }
            return 0;
        }

        private boolean canGoOn(int works) {
            for (int kinds = 1; kinds < KIND_SETS; kinds++) {
                if (Integer.bitCount(works & worksOf[kinds]) > couples[kinds]) {
                    return false;
                }
            }
            return true;
        }

        private int mostAtOnce(int works) {
            int least = Integer.bitCount(works);
            for (int kinds = 1; kinds < KIND_SETS; kinds++) {
                least = Math.min(least, couples[kinds] + Integer.bitCount(works & ~worksOf[kinds]));
            }
            return least;
        }

        /** No plan is shorter than the longest chain of WORKS, nor than the hours of some KINDS by their couples. */
        private int atLeast(Hull hull, int left) {
            for (int i = 0; i < KINDS; i++) {
                inKind[i] = 0;
            }
            int most = 0;
            for (int i = 0; i < hull.count && i < MOST_WORKS; i++) {
                int own = left >> 2 * i & 3;
                inKind[hull.kind[i] & 3] += own;
                chain[i] = own + longestAhead(hull.after[i], i);
                most = Math.max(most, chain[i]);
            }
            for (int kinds = 1; kinds < KIND_SETS; kinds++) {
                int hours = hoursOf(kinds);
                int many = couples[kinds];
                if (many > 0) {
                    most = Math.max(most, (hours + many - 1) / many);
                }
            }
            return most;
        }

        private int longestAhead(int after, int work) {
            int most = 0;
            for (int i = 0; i < work; i++) {
                if (isIn(after, i)) {
                    most = Math.max(most, chain[i]);
                }
            }
            return most;
        }

        private int hoursOf(int kinds) {
            int sum = 0;
            for (int i = 0; i < KINDS; i++) {
                if (isIn(kinds, i)) {
                    sum += inKind[i];
                }
            }
            return sum;
        }

        private static int openOf(Hull hull, int left) {
            int undone = 0;
            int open = 0;
            for (int i = 0; i < hull.count && i < MOST_WORKS; i++) {
                if ((left >> 2 * i & 3) != 0) {
                    if ((hull.after[i] & undone) == 0) {
                        open |= 1 << i;
                    }
                    undone |= 1 << i;
                }
            }
            return open;
        }

        /** One hour of each WORK of a set, as a number that can be taken from what is left. */
        private static int spread(int works) {
            int wide = (works | works << 4) & 0x0F0F;
            wide = (wide | wide << 2) & 0x3333;
            return (wide | wide << 1) & 0x5555;
        }
    }

    /** Which MAN goes to which TOOL, and which TOOL the MEN like best. */
    private static final class Mates {
        final int[] manOf = new int[MOST_TOOLS];
        final int[] toolOf = new int[MOST_MEN];
        private final int[] toAsk = new int[MOST_MEN];
        private final int[] likes = new int[MOST_TOOLS];

        /** The MEN ask, each the TOOL that he likes best of those that have not refused him: this is best for MEN. */
        void match(Yard yard, Judge judge) {
            for (int i = 0; i < MOST_TOOLS; i++) {
                manOf[i] = NONE;
            }
            for (int i = 0; i < MOST_MEN; i++) {
                toolOf[i] = NONE;
                toAsk[i] = i < yard.crew.men ? judge.toolsServing(yard, i) : 0;
            }
            for (int i = 0; i < MOST_MEN * MOST_TOOLS; i++) {
                int man = nextToAsk();
                if (man == NONE) {
                    return;
                }
                ask(yard, judge, man);
            }
        }

        private int nextToAsk() {
            for (int i = 0; i < MOST_MEN; i++) {
                if (toolOf[i] == NONE && toAsk[i] != 0) {
                    return i;
                }
            }
            return NONE;
        }

        private void ask(Yard yard, Judge judge, int man) {
            int tool = sharpest(yard.moves, toAsk[man]);
            if (tool == NONE) {
                return;
            }
            toAsk[man] &= ~(1 << tool);
            int other = manOf[tool];
            if (other >= 0 && other < MOST_MEN) {
                if (!rather(yard, judge, tool, man, other)) {
                    return;
                }
                toolOf[other] = NONE;
            }
            manOf[tool] = man;
            toolOf[man] = tool;
        }

        private boolean rather(Yard yard, Judge judge, int tool, int man, int other) {
            int one = judge.whatEdgesTell(yard, yard.moves, tool, man, LIKE);
            int two = judge.whatEdgesTell(yard, yard.moves, tool, other, LIKE);
            return one > two || one == two && man < other;
        }

        private static int sharpest(Moves moves, int tools) {
            int best = NONE;
            for (int i = 0; i < MOST_TOOLS; i++) {
                if (isIn(tools, i) && (best == NONE || moves.edge[i] > moves.edge[best])) {
                    best = i;
                }
            }
            return best;
        }

        int mostLoved(Yard yard, Judge judge) {
            for (int i = 0; i < MOST_TOOLS; i++) {
                likes[i] = 0;
            }
            for (int i = 0; i < yard.crew.men && i < MOST_MEN; i++) {
                int tool = sharpest(yard.moves, judge.toolsServing(yard, i));
                if (tool != NONE) {
                    likes[tool]++;
                }
            }
            int best = NONE;
            for (int i = 0; i < MOST_TOOLS; i++) {
                if (likes[i] > 0 && (best == NONE || likes[i] > likes[best])) {
                    best = i;
                }
            }
            return best;
        }
    }

    /** The TAPE, and how a text on it is read: up to the first token that can't stand where it does. */
    private static final class Reader {
        /** Each with a blank behind it. */
        private static final String WORDS = "will wont wear mood like when or and not skill edge moods today kind same branch bell weekday served work takes after tool man from for ";
        private static final String SIGNS = ";+-*/()<=>";

        private static final int END = 0;
        private static final int BAD = 1;
        private static final int NUMBER = 2;
        /** The words are tokens from here on, in their order; the signs are tokens by their own numbers, all below. */
        private static final int FIRST_WORD = 100;
        static final int WILL = 100;
        private static final int WONT = 101;
        static final int WEARS = 102;
        private static final int LIKES = 104;
        private static final int WHEN = 105;
        private static final int OR = 106;
        private static final int AND = 107;
        private static final int NOT = 108;
        private static final int FIRST_FACT = 109;
        private static final int LAST_FACT = 118;
        private static final int WORK = 119;
        private static final int TAKES = 120;
        private static final int AFTER = 121;
        private static final int TOOL = 122;
        private static final int MAN = 123;
        private static final int FROM = 124;
        private static final int FOR = 125;

        private static final int WRONG_PLACE = 1;
        private static final int WRONG_NUMBER = 2;
        private static final int TOO_MANY = 3;
        private static final int MOST_DEPTH = 8;
        private static final int MOST_DIGITS = 4;
        private static final int MOST_NUMBER = 9999;

        private final int[] tape = new int[TAPE_BYTES];
        int length;
        int fault;
        int faultPlace = NONE;

        private final int[] tokens = new int[TAPE_BYTES + 1];
        private final int[] values = new int[TAPE_BYTES + 1];
        private final int[] places = new int[TAPE_BYTES + 1];
        private int next;
        private int token;
        private int number;

        /** What is read stands here until it is known that no fault throws it away. */
        private final Law law = new Law();
        final Hull hull = new Hull();
        final Rota rota = new Rota();

        void append(int four) {
            for (int shift = 24; shift >= 0; shift -= 8) {
                if (length < TAPE_BYTES) {
                    tape[length] = four >>> shift & 255;
                    length++;
                }
            }
        }

        // ---- tokens ----

        /** All tokens are split off first: one that is none does no harm until the reading comes to it. */
        void begin() {
            fault = 0;
            faultPlace = NONE;
            int count = 0;
            int at = afterBlanks(0);
            while (at < length && count < TAPE_BYTES) {
                int stop = afterToken(at);
                tokens[count] = tokenOf(at, stop);
                values[count] = valueOf(at, stop);
                places[count] = at;
                count++;
                at = afterBlanks(stop);
            }
            tokens[count] = END;
            places[count] = length;
            next = 0;
            token = tokens[0];
        }

        private int afterBlanks(int from) {
            int at = from;
            while (at < length && (tape[at] == 32 || tape[at] == 10)) {
                at++;
            }
            return at;
        }

        private int afterToken(int from) {
            int at = from + 1;
            if (isLetter(tape[from])) {
                while (at < length && isLetter(tape[at])) {
                    at++;
                }
            } else if (isDigit(tape[from])) {
                while (at < length && isDigit(tape[at])) {
                    at++;
                }
            }
            return at;
        }

        private int tokenOf(int from, int stop) {
            int sign = tape[from];
            if (isLetter(sign)) {
                return wordOf(from, stop);
            }
            if (isDigit(sign)) {
                return stop - from <= MOST_DIGITS ? NUMBER : BAD;
            }
            return SIGNS.indexOf((char) sign) >= 0 ? sign : BAD;
        }

        private int valueOf(int from, int stop) {
            int value = 0;
            for (int i = from; i < stop && i < from + MOST_DIGITS; i++) {
                value = 10 * value + tape[i] - '0';
            }
            return value;
        }

        private int wordOf(int from, int stop) {
            int word = FIRST_WORD;
            int start = 0;
            for (int i = 0; i < WORDS.length(); i++) {
                if (WORDS.charAt(i) == ' ') {
                    if (i - start == stop - from && isSpelled(from, stop, start)) {
                        return word;
                    }
                    word++;
                    start = i + 1;
                }
            }
            return BAD;
        }

        private boolean isSpelled(int from, int stop, int start) {
            for (int i = from; i < stop; i++) {
                if (tape[i] != WORDS.charAt(start + i - from)) {
                    return false;
                }
            }
            return true;
        }

        private static boolean isLetter(int sign) {
            return sign >= 'a' && sign <= 'z' || sign >= 'A' && sign <= 'Z';
        }

        private static boolean isDigit(int sign) {
            return sign >= '0' && sign <= '9';
        }

        private void advance() {
            if (next < TAPE_BYTES && token != END) {
                next++;
                token = tokens[next];
            }
        }

        private boolean fail(int why) {
            fault = why;
            faultPlace = places[next];
            return false;
        }

        private boolean pass(int due) {
            if (token != due) {
                return fail(WRONG_PLACE);
            }
            advance();
            return true;
        }

        /** A NUMBER from least to most; it is kept as the number then. */
        private boolean passNumber(int least, int most) {
            if (token != NUMBER) {
                return fail(WRONG_PLACE);
            }
            number = values[next];
            if (number < least || number > most) {
                return fail(WRONG_NUMBER);
            }
            advance();
            return true;
        }

        // ---- laws ----

        int tellLaw(Law told, boolean ofEdges) {
            law.count = 0;
            law.size = 0;
            for (int i = 0; i <= LAW_LINES && token != END; i++) {
                if (!passLine(ofEdges)) {
                    return NONE;
                }
            }
            told.copy(law);
            return law.count;
        }

        private boolean passLine(boolean ofEdges) {
            int line = law.count;
            if (ofEdges ? token < WEARS || token > LIKES : token != WILL && token != WONT) {
                return fail(WRONG_PLACE);
            }
            if (line >= LAW_LINES) {
                return fail(TOO_MANY);
            }
            law.word[line] = token;
            law.start[line] = law.size;
            advance();
            if (ofEdges && !passSum()) {
                return false;
            }
            law.when[line] = law.size;
            if (token == WHEN) {
                advance();
                if (!passEither(0)) {
                    return false;
                }
            }
            law.stop[line] = law.size;
            law.count++;
            return pass(';');
        }

        /** B; depth: how many ( and not are open. An or waits until all that is bound by and is told. */
        private boolean passEither(int depth) {
            boolean waits = false;
            boolean fine = passTest(depth);
            for (int i = 0; i < TAPE_BYTES && fine && (token == OR || token == AND); i++) {
                boolean both = token == AND;
                if (!both && waits) {
                    law.put(Law.OR, 0);
                }
                waits = waits || !both;
                advance();
                fine = passTest(depth);
                if (both) {
                    law.put(Law.AND, 0);
                }
            }
            if (waits) {
                law.put(Law.OR, 0);
            }
            return fine;
        }

        /** C. */
        private boolean passTest(int depth) {
            if ((token == NOT || token == '(') && depth >= MOST_DEPTH) {
                return fail(TOO_MANY);
            }
            if (token == NOT) {
                advance();
                boolean fine = passTest(depth + 1);
                law.put(Law.NOT, 0);
                return fine;
            }
            if (token == '(') {
                advance();
                return passEither(depth + 1) && pass(')');
            }
            if (!passSum()) {
                return false;
            }
            int sign = token;
            if (sign != '<' && sign != '=' && sign != '>') {
                return fail(WRONG_PLACE);
            }
            advance();
            boolean fine = passSum();
            law.put(sign == '<' ? Law.BELOW : sign == '=' ? Law.ALIKE : Law.ABOVE, 0);
            return fine;
        }

        /** E. A + or - waits until all that is bound by * and / is told. */
        private boolean passSum() {
            int waits = NONE;
            boolean fine = passUnit();
            for (int i = 0; i < TAPE_BYTES && fine && (token == '+' || token == '-' || token == '*' || token == '/'); i++) {
                int sign = token;
                advance();
                if (sign == '/') {
                    fine = passNumber(1, MOST_NUMBER);
                    law.put(Law.PART, number);
                } else if (sign == '*') {
                    fine = passUnit();
                    law.put(Law.TIMES, 0);
                } else {
                    if (waits != NONE) {
                        law.put(waits, 0);
                    }
                    waits = sign == '+' ? Law.PLUS : Law.MINUS;
                    fine = passUnit();
                }
            }
            if (waits != NONE) {
                law.put(waits, 0);
            }
            return fine;
        }

        /** U. */
        private boolean passUnit() {
            if (token == NUMBER) {
                law.put(Law.NUMBER, values[next]);
            } else if (token >= FIRST_FACT && token <= LAST_FACT) {
                law.put(Law.FACT, token - FIRST_FACT);
            } else {
                return fail(WRONG_PLACE);
            }
            advance();
            return true;
        }

        // ---- a hull ----

        boolean readHull() {
            hull.count = 0;
            for (int i = 0; i <= MOST_WORKS && token != END; i++) {
                if (!passWork()) {
                    return false;
                }
            }
            return true;
        }

        private boolean passWork() {
            int one = hull.count;
            if (token != WORK) {
                return fail(WRONG_PLACE);
            }
            if (one >= MOST_WORKS) {
                return fail(TOO_MANY);
            }
            advance();
            if (!passNumber(0, KINDS - 1)) {
                return false;
            }
            hull.kind[one] = number;
            if (!pass(TAKES) || !passNumber(1, MOST_TAKES)) {
                return false;
            }
            hull.takes[one] = number;
            hull.after[one] = 0;
            for (int i = 0; i < TAPE_BYTES && token == AFTER; i++) {
                advance();
                if (!passNumber(0, one - 1)) {
                    return false;
                }
                hull.after[one] |= 1 << number;
            }
            hull.count++;
            return pass(';');
        }

        // ---- a rota ----

        boolean readRota(Yard yard) {
            rota.count = 0;
            for (int i = 0; i <= ROTA_LINES && token != END; i++) {
                if (!passDuty(yard)) {
                    return false;
                }
            }
            return true;
        }

        private boolean passDuty(Yard yard) {
            if (token != TOOL) {
                return fail(WRONG_PLACE);
            }
            if (rota.count >= ROTA_LINES) {
                return fail(TOO_MANY);
            }
            boolean fine = passDue(TOOL, rota.tool, 0, yard.crew.tools - 1)
                && passDue(MAN, rota.man, 0, yard.crew.men - 1)
                && passDue(WORK, rota.work, 0, yard.hull.count - 1)
                && passDue(FROM, rota.from, 0, LAST_HOUR)
                && passDue(FOR, rota.span, 1, LONGEST);
            if (!fine) {
                return false;
            }
            rota.count++;
            return pass(';');
        }

        /** A word and the NUMBER behind it, which goes into a row of the line that is read. */
        private boolean passDue(int word, int[] row, int least, int most) {
            if (!pass(word) || !passNumber(least, most)) {
                return false;
            }
            if (rota.count < row.length) {
                row[rota.count] = number;
            }
            return true;
        }
    }
}
