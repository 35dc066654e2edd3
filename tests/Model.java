import java.util.ArrayDeque;
import java.util.ArrayList;
import java.util.Arrays;
import java.util.HashMap;
import java.util.HashSet;
import java.util.List;
import java.util.Map;
import java.util.Set;

/**
 * The document once more, told as plainly as can be: by trying all there is. Slow, and on purpose another way than
 * the program's, so that both are hardly wrong alike.
 */
final class Model {
    static final int NONE = -1;

    static final class Tool {
        int kind, branch, left, edge = 60, mood = 50, votes = 1, off = 7, today, hours;
    }

    static final class Man {
        int skill, left;
    }

    static final class Work {
        int kind, takes, after, done;
    }

    static final class Duty {
        int tool, man, work, from, span;
    }

    static final class Line {
        String word;
        List<String> value = new ArrayList<>();
        List<String> when = new ArrayList<>();
        boolean hasWhen;
    }

    /** All that an image has. */
    static final class All {
        List<Tool> tools = new ArrayList<>();
        List<Man> men = new ArrayList<>();
        List<Work> works = new ArrayList<>();
        List<Duty> rota = new ArrayList<>();
        List<Line> serving = new ArrayList<>();
        List<Line> edges = new ArrayList<>();
        List<int[]> seen = new ArrayList<>();
        List<int[]> book = new ArrayList<>();
        boolean[][] may = new boolean[4][4];
        boolean[] strikes = new boolean[4];
        int hour, state, rust, quota = 1;

        All() {
            for (boolean[] row : may) {
                Arrays.fill(row, true);
            }
        }

        All copy() {
            All c = new All();
            for (Tool t : tools) {
                Tool u = new Tool();
                u.kind = t.kind;
                u.branch = t.branch;
                u.left = t.left;
                u.edge = t.edge;
                u.mood = t.mood;
                u.votes = t.votes;
                u.off = t.off;
                u.today = t.today;
                u.hours = t.hours;
                c.tools.add(u);
            }
            for (Man m : men) {
                Man n = new Man();
                n.skill = m.skill;
                n.left = m.left;
                c.men.add(n);
            }
            for (Work w : works) {
                Work v = new Work();
                v.kind = w.kind;
                v.takes = w.takes;
                v.after = w.after;
                v.done = w.done;
                c.works.add(v);
            }
            c.rota.addAll(rota);
            c.serving.addAll(serving);
            c.edges.addAll(edges);
            c.seen.addAll(seen);
            c.book.addAll(book);
            for (int b = 0; b < 4; b++) {
                c.may[b] = may[b].clone();
                c.strikes[b] = strikes[b];
            }
            c.hour = hour;
            c.state = state;
            c.rust = rust;
            c.quota = quota;
            return c;
        }
    }

    All all = new All();
    All image;
    final ArrayDeque<All> past = new ArrayDeque<>();
    final List<Integer> tape = new ArrayList<>();
    int fault;
    int faultPlace = NONE;

    private static boolean in(int v, int least, int most) {
        return least <= v && v <= most;
    }

    private boolean tool(int i) {
        return in(i, 0, all.tools.size() - 1);
    }

    private boolean man(int i) {
        return in(i, 0, all.men.size() - 1);
    }

    private void keep() {
        past.addLast(all.copy());
        if (past.size() > 6) {
            past.removeFirst();
        }
    }

    int state(int v) {
        int was = all.state;
        all.state = v;
        past.clear();
        return was;
    }

    int tool(int kind, int branch, int left) {
        if (all.tools.size() == 8 || !in(kind, 0, 3) || !in(branch, 0, 3) || !in(left, 0, 1)) {
            return NONE;
        }
        Tool t = new Tool();
        t.kind = kind;
        t.branch = branch;
        t.left = left;
        all.tools.add(t);
        past.clear();
        return all.tools.size() - 1;
    }

    int man(int skill, int left) {
        if (all.men.size() == 4 || !in(skill, 0, 99) || !in(left, 0, 1)) {
            return NONE;
        }
        Man m = new Man();
        m.skill = skill;
        m.left = left;
        all.men.add(m);
        past.clear();
        return all.men.size() - 1;
    }

    boolean set(int what, int who, int v) {
        if (what == 0 && tool(who) && in(v, 0, 99)) {
            all.tools.get(who).edge = v;
        } else if (what == 1 && tool(who) && in(v, 0, 99)) {
            all.tools.get(who).mood = v;
        } else if (what == 2 && tool(who) && in(v, 0, 9)) {
            all.tools.get(who).votes = v;
        } else if (what == 3 && tool(who) && in(v, 0, 7)) {
            all.tools.get(who).off = v;
        } else if (what == 4 && man(who) && in(v, 0, 99)) {
            all.men.get(who).skill = v;
        } else if (what == 5 && in(v, 0, 1000)) {
            all.rust = v;
        } else if (what == 6 && in(v, 1, 80)) {
            all.quota = v;
        } else {
            return false;
        }
        past.clear();
        return true;
    }

    boolean mend(int tool, boolean oil) {
        if (!tool(tool)) {
            return false;
        }
        keep();
        Tool t = all.tools.get(tool);
        if (oil) {
            t.mood = Math.min(99, t.mood + 10);
        } else {
            t.edge = Math.min(99, t.edge + 20);
            t.mood = Math.max(0, t.mood - 5);
        }
        return true;
    }

    boolean strike(int branch, boolean does) {
        if (!in(branch, 0, 3) || all.strikes[branch] == does) {
            return false;
        }
        keep();
        all.strikes[branch] = does;
        return true;
    }

    boolean may(int branch, int kind, boolean is) {
        if (!in(branch, 0, 3) || !in(kind, 0, 3) || all.may[branch][kind] == is) {
            return false;
        }
        keep();
        all.may[branch][kind] = is;
        return true;
    }

    // what hours do

    int refused;
    int worked;
    int firstHour;
    int firstLine;
    Set<Integer> ever = new HashSet<>();

    private void anHour(All a, boolean thought) {
        Set<Integer> tools = new HashSet<>();
        Set<Integer> men = new HashSet<>();
        for (int i = 0; i < a.rota.size(); i++) {
            Duty d = a.rota.get(i);
            if (a.hour < d.from || a.hour > d.from + d.span - 1) {
                continue;
            }
            Tool t = a.tools.get(d.tool);
            Work w = a.works.get(d.work);
            boolean can = !tools.contains(d.tool) && !men.contains(d.man) && open(a, d.work) && w.kind == t.kind
                && serves(a, d.tool, d.man, false);
            if (!can) {
                if (refused++ == 0) {
                    firstHour = a.hour;
                    firstLine = i;
                }
                continue;
            }
            w.done++;
            work(a, d.tool, d.man);
            tools.add(d.tool);
            men.add(d.man);
            ever.add(d.tool);
            worked++;
            if (!thought && a.book.size() < 200) {
                a.book.add(new int[] {a.hour, d.tool, d.man, d.work});
            }
        }
        if (!thought && a.rust > 0) {
            for (int i = 0; i < a.tools.size(); i++) {
                Tool t = a.tools.get(i);
                if (!tools.contains(i) && t.edge > 0) {
                    a.state = a.state * 1664525 + 1013904223;
                    if ((a.state >>> 8) % 1000 < a.rust) {
                        t.edge--;
                    }
                }
            }
        }
        a.hour++;
        if (a.hour % 8 == 0) {
            for (Tool t : a.tools) {
                t.today = 0;
            }
        }
    }

    private void work(All a, int tool, int man) {
        Tool t = a.tools.get(tool);
        int wear = edgesTell(a, tool, man, 0);
        int mood = edgesTell(a, tool, man, 1);
        t.edge = Math.max(0, t.edge - wear);
        t.mood = Math.max(0, Math.min(99, t.mood + mood));
        t.today++;
        t.hours++;
    }

    private void count() {
        refused = 0;
        worked = 0;
        firstHour = NONE;
        firstLine = NONE;
        ever.clear();
    }

    int hours(int n) {
        if (!in(n, 1, 60) || all.hour + n > 9999) {
            return NONE;
        }
        count();
        for (int i = 0; i < n; i++) {
            keep();
            anHour(all, false);
        }
        return refused;
    }

    private static boolean done(All a, int i) {
        return a.works.get(i).done == a.works.get(i).takes;
    }

    private static boolean open(All a, int i) {
        boolean open = !done(a, i);
        for (int j = 0; j < a.works.size(); j++) {
            open &= (a.works.get(i).after & 1 << j) == 0 || done(a, j);
        }
        return open;
    }

    private static boolean allDone(All a) {
        for (int i = 0; i < a.works.size(); i++) {
            if (!done(a, i)) {
                return false;
            }
        }
        return true;
    }

    // laws

    private boolean serves(All a, int tool, int man, boolean asIfMay) {
        Tool t = a.tools.get(tool);
        if (!asIfMay && !a.may[t.branch][t.kind] || a.strikes[t.branch] || t.off == a.hour / 8 % 7 || t.edge == 0) {
            return false;
        }
        for (Line line : a.serving) {
            if (so(a, line, tool, man)) {
                return line.word.equals("will");
            }
        }
        return true;
    }

    private int edgesTell(All a, int tool, int man, int what) {
        String word = new String[] {"wear", "mood", "like"}[what];
        int told = what == 0 ? 1 : 0;
        for (Line line : a.edges) {
            if (line.word.equals(word) && so(a, line, tool, man)) {
                told = new Sum(a, tool, man, line.value).e();
                break;
            }
        }
        int[][] bounds = {{0, 20}, {-20, 20}, {-999, 999}};
        return Math.max(bounds[what][0], Math.min(bounds[what][1], told));
    }

    private boolean so(All a, Line line, int tool, int man) {
        return !line.hasWhen || new Sum(a, tool, man, line.when).b();
    }

    /** Reads the words of a line again each time that it is asked. */
    private static final class Sum {
        final All a;
        final Tool t;
        final Man m;
        final List<String> words;
        int at;

        Sum(All a, int tool, int man, List<String> words) {
            this.a = a;
            this.t = a.tools.get(tool);
            this.m = a.men.get(man);
            this.words = words;
        }

        private boolean take(String w) {
            if (at < words.size() && words.get(at).equals(w)) {
                at++;
                return true;
            }
            return false;
        }

        boolean b() {
            boolean v = a();
            while (take("or")) {
                v = a() || v;
            }
            return v;
        }

        boolean a() {
            boolean v = c();
            while (take("and")) {
                v = c() && v;
            }
            return v;
        }

        boolean c() {
            if (take("not")) {
                return !c();
            }
            if (take("(")) {
                boolean v = b();
                take(")");
                return v;
            }
            int one = e();
            String sign = words.get(at++);
            int two = e();
            return sign.equals("<") ? one < two : sign.equals(">") ? one > two : one == two;
        }

        int e() {
            int v = t();
            while (true) {
                if (take("+")) {
                    v += t();
                } else if (take("-")) {
                    v -= t();
                } else {
                    return v;
                }
            }
        }

        int t() {
            int v = u();
            while (true) {
                if (take("*")) {
                    v *= u();
                } else if (take("/")) {
                    v /= u();
                } else {
                    return v;
                }
            }
        }

        int u() {
            String w = words.get(at++);
            switch (w) {
                case "skill": return m.skill;
                case "edge": return t.edge;
                case "moods": return t.mood;
                case "today": return t.today;
                case "kind": return t.kind;
                case "same": return t.left == m.left ? 1 : 0;
                case "branch": return t.branch;
                case "bell": return a.hour % 8;
                case "weekday": return a.hour / 8 % 7;
                case "served": return t.hours;
                default: return Integer.parseInt(w);
            }
        }
    }

    // texts

    int feed(int a, int b, int c, int d, int e) {
        if (tape.size() + 20 > 400) {
            return NONE;
        }
        for (int n : new int[] {a, b, c, d, e}) {
            tape.add(n >>> 24);
            tape.add(n >> 16 & 255);
            tape.add(n >> 8 & 255);
            tape.add(n & 255);
        }
        return tape.size();
    }

    boolean end(int n) {
        if (!in(n, 0, tape.size())) {
            return false;
        }
        while (tape.size() > n) {
            tape.remove(tape.size() - 1);
        }
        return true;
    }

    private static final class Fault extends Exception {
        final int why;
        final int place;

        Fault(int why, int place) {
            this.why = why;
            this.place = place;
        }
    }

    /** Reads with a token at a time split off the text just when it is looked at. */
    private final class Text {
        final String text;
        int at;
        int place;
        String token;

        Text(String text) {
            this.text = text;
            step();
        }

        void step() {
            while (at < text.length() && (text.charAt(at) == ' ' || text.charAt(at) == '\n')) {
                at++;
            }
            place = at;
            int from = at;
            String[] forms = {"[a-zA-Z]", "[0-9]"};
            if (at < text.length()) {
                at++;
                for (String form : forms) {
                    if (text.substring(from, from + 1).matches(form)) {
                        while (at < text.length() && text.substring(at, at + 1).matches(form)) {
                            at++;
                        }
                    }
                }
            }
            token = text.substring(from, at);
        }

        Fault wrong(int why) {
            return new Fault(why, place);
        }

        void need(String word) throws Fault {
            if (!token.equals(word)) {
                throw wrong(1);
            }
            step();
        }

        int number(int least, int most) throws Fault {
            if (!token.matches("[0-9]{1,4}")) {
                throw wrong(1);
            }
            int v = Integer.parseInt(token);
            if (v < least || v > most) {
                throw wrong(2);
            }
            step();
            return v;
        }

        boolean one(String... words) {
            return Arrays.asList(words).contains(token);
        }

        private void take(List<String> to) {
            to.add(token);
            step();
        }

        void b(List<String> to, int open) throws Fault {
            a(to, open);
            while (one("or")) {
                take(to);
                a(to, open);
            }
        }

        void a(List<String> to, int open) throws Fault {
            c(to, open);
            while (one("and")) {
                take(to);
                c(to, open);
            }
        }

        void c(List<String> to, int open) throws Fault {
            if (one("not", "(")) {
                if (open == 8) {
                    throw wrong(3);
                }
                boolean not = one("not");
                take(to);
                if (not) {
                    c(to, open + 1);
                    return;
                }
                b(to, open + 1);
                if (!one(")")) {
                    throw wrong(1);
                }
                take(to);
                return;
            }
            e(to);
            if (!one("<", "=", ">")) {
                throw wrong(1);
            }
            take(to);
            e(to);
        }

        void e(List<String> to) throws Fault {
            t(to);
            while (one("+", "-")) {
                take(to);
                t(to);
            }
        }

        void t(List<String> to) throws Fault {
            u(to);
            while (one("*", "/")) {
                boolean part = one("/");
                take(to);
                if (part) {
                    to.add("" + number(1, 9999));
                } else {
                    u(to);
                }
            }
        }

        void u(List<String> to) throws Fault {
            if (!token.matches("[0-9]{1,4}|skill|edge|moods|today|kind|same|branch|bell|weekday|served")) {
                throw wrong(1);
            }
            take(to);
        }

        List<Line> law(boolean edges) throws Fault {
            List<Line> law = new ArrayList<>();
            while (!token.isEmpty()) {
                if (!(edges ? one("wear", "mood", "like") : one("will", "wont"))) {
                    throw wrong(1);
                }
                if (law.size() == 16) {
                    throw wrong(3);
                }
                Line line = new Line();
                line.word = token;
                step();
                if (edges) {
                    e(line.value);
                }
                if (one("when")) {
                    step();
                    line.hasWhen = true;
                    b(line.when, 0);
                }
                need(";");
                law.add(line);
            }
            return law;
        }

        List<Work> hull() throws Fault {
            List<Work> works = new ArrayList<>();
            while (!token.isEmpty()) {
                if (one("work") && works.size() == 8) {
                    throw wrong(3);
                }
                need("work");
                Work w = new Work();
                w.kind = number(0, 3);
                need("takes");
                w.takes = number(1, 3);
                while (one("after")) {
                    step();
                    w.after |= 1 << number(0, works.size() - 1);
                }
                need(";");
                works.add(w);
            }
            return works;
        }

        List<Duty> rota() throws Fault {
            List<Duty> rota = new ArrayList<>();
            while (!token.isEmpty()) {
                if (one("tool") && rota.size() == 20) {
                    throw wrong(3);
                }
                need("tool");
                Duty d = new Duty();
                d.tool = number(0, all.tools.size() - 1);
                need("man");
                d.man = number(0, all.men.size() - 1);
                need("work");
                d.work = number(0, all.works.size() - 1);
                need("from");
                d.from = number(0, 9999);
                need("for");
                d.span = number(1, 99);
                need(";");
                rota.add(d);
            }
            return rota;
        }
    }

    int text(int k) {
        StringBuilder s = new StringBuilder();
        for (int b : tape) {
            s.append((char) b);
        }
        tape.clear();
        fault = 0;
        faultPlace = NONE;
        try {
            Text text = new Text(s.toString());
            switch (k) {
                case 0:
                    all.serving = text.law(false);
                    return all.serving.size();
                case 1:
                    all.edges = text.law(true);
                    return all.edges.size();
                case 2:
                    all.works = text.hull();
                    all.rota = new ArrayList<>();
                    all.seen = new ArrayList<>();
                    past.clear();
                    return all.works.size();
                case 3:
                    all.rota = text.rota();
                    past.clear();
                    return all.rota.size();
                default:
                    return NONE;
            }
        } catch (Fault f) {
            fault = f.why;
            faultPlace = f.place;
            return NONE;
        }
    }

    int fault(int what) {
        return what == 0 ? fault : what == 1 ? faultPlace : NONE;
    }

    // what is asked of one

    int of(int i, int what) {
        if (!tool(i) || !in(what, 0, 11)) {
            return -2;
        }
        Tool t = all.tools.get(i);
        if (what < 9) {
            return new int[] {t.kind, t.branch, t.left, t.edge, t.mood, t.votes, t.off, t.today, t.hours}[what];
        }
        if (what == 11) {
            int[] mates = mates();
            for (int m = 0; m < mates.length; m++) {
                if (mates[m] == i) {
                    return m;
                }
            }
            return NONE;
        }
        if (what == 10) {
            return powers(new ArrayList<>(), i);
        }
        int swings = 0;
        for (int set = 0; set < 1 << all.tools.size(); set++) {
            if ((set & 1 << i) != 0 && votes(set) >= all.quota && votes(set & ~(1 << i)) < all.quota) {
                swings++;
            }
        }
        return swings;
    }

    private int votes(int set) {
        int sum = 0;
        for (int i = 0; i < all.tools.size(); i++) {
            sum += (set >> i & 1) * all.tools.get(i).votes;
        }
        return sum;
    }

    /** Goes through all orders: who comes with the QUOTA. */
    private int powers(List<Integer> order, int who) {
        if (order.size() == all.tools.size()) {
            int sum = 0;
            for (int i : order) {
                int more = sum + all.tools.get(i).votes;
                if (sum < all.quota && more >= all.quota) {
                    return i == who ? 1 : 0;
                }
                sum = more;
            }
            return 0;
        }
        int count = 0;
        for (int i = 0; i < all.tools.size(); i++) {
            if (!order.contains(i)) {
                order.add(i);
                count += powers(order, who);
                order.remove(order.size() - 1);
            }
        }
        return count;
    }

    int at(int i, int what) {
        if (!man(i) || !in(what, 0, 2)) {
            return -2;
        }
        Man m = all.men.get(i);
        return what == 0 ? m.skill : what == 1 ? m.left : mates()[i];
    }

    /** All matchings are tried; of those where none would both leave, the one in which every man has the best that he has in any. */
    private int[] mates() {
        List<int[]> stable = new ArrayList<>();
        int[] now = new int[all.men.size()];
        match(now, 0, stable);
        int[] best = stable.get(0);
        for (int[] m : stable) {
            boolean better = true;
            for (int i = 0; i < m.length; i++) {
                better &= m[i] == best[i] || manLikes(m[i], best[i]);
            }
            if (better) {
                best = m;
            }
        }
        return best;
    }

    private void match(int[] now, int man, List<int[]> stable) {
        if (man == now.length) {
            if (isStable(now)) {
                stable.add(now.clone());
            }
            return;
        }
        now[man] = NONE;
        match(now, man + 1, stable);
        for (int t = 0; t < all.tools.size(); t++) {
            boolean free = serves(all, t, man, false);
            for (int i = 0; i < man; i++) {
                free &= now[i] != t;
            }
            if (free) {
                now[man] = t;
                match(now, man + 1, stable);
            }
        }
        now[man] = NONE;
    }

    private boolean manLikes(int tool, int than) {
        if (tool == NONE) {
            return false;
        }
        if (than == NONE) {
            return true;
        }
        int a = all.tools.get(tool).edge;
        int b = all.tools.get(than).edge;
        return a > b || a == b && tool < than;
    }

    private boolean isStable(int[] now) {
        for (int man = 0; man < now.length; man++) {
            for (int t = 0; t < all.tools.size(); t++) {
                if (now[man] == t || !serves(all, t, man, false) || !manLikes(t, now[man])) {
                    continue;
                }
                int other = NONE;
                for (int i = 0; i < now.length; i++) {
                    if (now[i] == t) {
                        other = i;
                    }
                }
                if (other == NONE) {
                    return false;
                }
                int one = edgesTell(all, t, man, 2);
                int two = edgesTell(all, t, other, 2);
                if (one > two || one == two && man < other) {
                    return false;
                }
            }
        }
        return true;
    }

    int work(int i, int what) {
        if (!in(i, 0, all.works.size() - 1) || !in(what, 0, 8)) {
            return -2;
        }
        Work w = all.works.get(i);
        if (what < 4) {
            return new int[] {w.kind, w.takes, w.after, w.done}[what];
        }
        if (what == 4) {
            return open(all, i) ? 1 : 0;
        }
        if (what == 5) {
            return done(all, i) ? 1 : 0;
        }
        List<int[]> hands = hands(w.kind, (1 << all.tools.size()) - 1);
        if (what == 6) {
            return hands.size();
        }
        return hands.isEmpty() ? NONE : hands.get(0)[what - 7];
    }

    private List<int[]> hands(int kind, int tools) {
        List<int[]> hands = new ArrayList<>();
        for (int t = 0; t < all.tools.size(); t++) {
            for (int m = 0; m < all.men.size(); m++) {
                if ((tools >> t & 1) == 1 && all.tools.get(t).kind == kind && serves(all, t, m, false)) {
                    hands.add(new int[] {t, m});
                }
            }
        }
        return hands;
    }

    int serves(int tool, int man) {
        return !tool(tool) || !man(man) ? NONE : serves(all, tool, man, false) ? 1 : 0;
    }

    int tells(int tool, int man, int what) {
        return !tool(tool) || !man(man) || !in(what, 0, 2) ? -1000 : edgesTell(all, tool, man, what);
    }

    int book(int i, int what) {
        return !in(i, 0, all.book.size() - 1) || !in(what, 0, 3) ? NONE : all.book.get(i)[what];
    }

    // in thought

    private boolean someHasNoHands(int tools) {
        for (int i = 0; i < all.works.size(); i++) {
            if (!done(all, i) && hands(all.works.get(i).kind, tools).isEmpty()) {
                return true;
            }
        }
        return false;
    }

    int soonest(int what) {
        int everybody = (1 << all.tools.size()) - 1;
        if (!in(what, 0, 1) || someHasNoHands(everybody)) {
            return NONE;
        }
        int[] left = new int[8];
        for (int i = 0; i < all.works.size(); i++) {
            left[i] = all.works.get(i).takes - all.works.get(i).done;
        }
        List<List<int[]>> byKind = new ArrayList<>();
        for (int k = 0; k < 4; k++) {
            byKind.add(hands(k, everybody));
        }
        boolean[] at = new boolean[256];
        for (int set = 0; set < 256; set++) {
            at[set] = canAtOnce(set, 0, 0, 0, byKind);
        }
        Map<String, Integer> known = new HashMap<>();
        int hours = soonestFrom(left, at, known);
        if (what == 0 || hours == 0) {
            return hours;
        }
        for (int set = 1; set < 256; set++) {
            int[] next = at[set] ? after(left, set) : null;
            if (next != null && soonestFrom(next, at, known) == hours - 1) {
                return set;
            }
        }
        return -777;
    }

    private boolean canAtOnce(int works, int from, int tools, int men, List<List<int[]>> byKind) {
        for (int i = from; i < 8; i++) {
            if ((works >> i & 1) == 1) {
                if (i >= all.works.size()) {
                    return false;
                }
                for (int[] hand : byKind.get(all.works.get(i).kind)) {
                    if ((tools >> hand[0] & 1) == 0 && (men >> hand[1] & 1) == 0
                        && canAtOnce(works, i + 1, tools | 1 << hand[0], men | 1 << hand[1], byKind)) {
                        return true;
                    }
                }
                return false;
            }
        }
        return true;
    }

    private int[] after(int[] left, int set) {
        int[] next = left.clone();
        for (int i = 0; i < 8; i++) {
            if ((set >> i & 1) == 1) {
                if (left[i] == 0) {
                    return null;
                }
                for (int j = 0; j < i; j++) {
                    if ((all.works.get(i).after >> j & 1) == 1 && left[j] > 0) {
                        return null;
                    }
                }
                next[i]--;
            }
        }
        return next;
    }

    private int soonestFrom(int[] left, boolean[] at, Map<String, Integer> known) {
        String key = Arrays.toString(left);
        Integer was = known.get(key);
        if (was != null) {
            return was;
        }
        int best = Arrays.stream(left).sum() == 0 ? 0 : 1000;
        for (int set = 1; set < 256; set++) {
            int[] next = at[set] ? after(left, set) : null;
            if (next != null) {
                best = Math.min(best, 1 + soonestFrom(next, at, known));
            }
        }
        known.put(key, best);
        return best;
    }

    int few(int what) {
        if (!in(what, 0, 3)) {
            return NONE;
        }
        int everybody = (1 << all.tools.size()) - 1;
        int best = NONE;
        for (int set = 0; set <= everybody; set++) {
            boolean fits = what < 2 ? someHasNoHands(everybody & ~set) : !someHasNoHands(set);
            if (fits && (best == NONE || Integer.bitCount(set) < Integer.bitCount(best))) {
                best = set;
            }
        }
        return best == NONE || what % 2 == 1 ? best : Integer.bitCount(best);
    }

    /** All sets of couples that could be told more are tried; those that are told already are none. */
    int changes(int what) {
        if (what != 0 && !in(what, 10, 13)) {
            return NONE;
        }
        int[] best = null;
        int fewest = 99;
        for (int b0 = -1; b0 < 4; b0++) {
            for (int b1 = -1; b1 < 4; b1++) {
                for (int b2 = -1; b2 < 4; b2++) {
                    for (int b3 = -1; b3 < 4; b3++) {
                        int[] way = {b0, b1, b2, b3};
                        int many = 0;
                        for (int b : way) {
                            many += b == NONE ? 0 : 1;
                        }
                        if (many < fewest && helps(way)) {
                            fewest = many;
                            best = way;
                        }
                    }
                }
            }
        }
        return best == null ? NONE : what == 0 ? fewest : best[what - 10];
    }

    private boolean helps(int[] way) {
        boolean[][] was = all.may;
        all.may = new boolean[4][];
        for (int b = 0; b < 4; b++) {
            all.may[b] = was[b].clone();
        }
        boolean fresh = true;
        for (int k = 0; k < 4; k++) {
            if (way[k] != NONE) {
                fresh &= !was[way[k]][k];
                all.may[way[k]][k] = true;
            }
        }
        boolean helps = fresh && !someHasNoHands((1 << all.tools.size()) - 1);
        all.may = was;
        return helps;
    }

    int vote(int tools) {
        return !in(tools, 0, (1 << all.tools.size()) - 1) ? NONE : votes(tools) >= all.quota ? 1 : 0;
    }

    int lasts(int tool, int man) {
        if (!tool(tool) || !man(man)) {
            return NONE;
        }
        All a = all.copy();
        int hours = 0;
        while (a.tools.get(tool).edge > 0) {
            if (hours == 99) {
                return NONE;
            }
            work(a, tool, man);
            hours++;
        }
        return hours;
    }

    private All think(int n) {
        All a = all.copy();
        count();
        for (int i = 0; i < n; i++) {
            anHour(a, true);
        }
        return a;
    }

    int runs(int n, int what) {
        if (!in(n, 1, 99) || !in(what, 0, 3)) {
            return NONE;
        }
        think(n);
        return new int[] {worked, refused, firstHour, firstLine}[what];
    }

    int idle(int n) {
        if (!in(n, 1, 99)) {
            return NONE;
        }
        think(n);
        int set = 0;
        for (int i = 0; i < all.tools.size(); i++) {
            set |= ever.contains(i) ? 0 : 1 << i;
        }
        return set;
    }

    int dull(int tool, int n) {
        if (!tool(tool) || !in(n, 0, 99)) {
            return NONE;
        }
        All a = all.copy();
        for (int i = 0; i <= n; i++) {
            if (a.tools.get(tool).edge == 0) {
                return i;
            }
            anHour(a, true);
        }
        return NONE;
    }

    int ready() {
        All a = all.copy();
        for (int i = 0; i <= 99; i++) {
            if (allDone(a)) {
                return all.hour + i;
            }
            anHour(a, true);
        }
        return NONE;
    }

    int loved() {
        int[] likes = new int[8];
        for (int m = 0; m < all.men.size(); m++) {
            int best = NONE;
            for (int t = 0; t < all.tools.size(); t++) {
                if (serves(all, t, m, false) && manLikes(t, best)) {
                    best = t;
                }
            }
            if (best != NONE) {
                likes[best]++;
            }
        }
        int most = NONE;
        for (int t = 7; t >= 0; t--) {
            if (likes[t] > 0 && (most == NONE || likes[t] >= likes[most])) {
                most = t;
            }
        }
        return most;
    }

    int seen(int a, int b) {
        if (a == NONE) {
            all.seen = new ArrayList<>();
            return 0;
        }
        int last = all.works.size() - 1;
        if (!in(a, 0, last) || !in(b, 0, last) || a == b || all.seen.size() == 12) {
            return NONE;
        }
        all.seen = new ArrayList<>(all.seen);
        all.seen.add(new int[] {a, b});
        return all.seen.size();
    }

    int orders(int what) {
        List<List<Integer>> found = new ArrayList<>();
        order(new ArrayList<>(), found);
        if (what == 0) {
            return found.size();
        }
        if (found.isEmpty() || !in(what, 10, 9 + all.works.size())) {
            return NONE;
        }
        return found.get(0).get(what - 10);
    }

    private void order(List<Integer> so, List<List<Integer>> found) {
        if (so.size() == all.works.size()) {
            found.add(new ArrayList<>(so));
            return;
        }
        for (int w = 0; w < all.works.size(); w++) {
            boolean can = !so.contains(w);
            for (int v = 0; v < all.works.size(); v++) {
                can &= (all.works.get(w).after >> v & 1) == 0 || so.contains(v);
            }
            for (int[] couple : all.seen) {
                can &= couple[1] != w || so.contains(couple[0]);
            }
            if (can) {
                so.add(w);
                order(so, found);
                so.remove(so.size() - 1);
            }
        }
    }

    boolean undo() {
        if (past.isEmpty()) {
            return false;
        }
        All back = past.removeLast();
        back.serving = all.serving;
        back.edges = all.edges;
        back.seen = all.seen;
        all = back;
        return true;
    }

    boolean image(boolean taken) {
        if (taken) {
            image = all.copy();
            return true;
        }
        if (image == null) {
            return false;
        }
        all = image.copy();
        past.clear();
        return true;
    }

    int look(int what) {
        if (in(what, 20, 23)) {
            int set = 0;
            for (int k = 0; k < 4; k++) {
                set |= all.may[what - 20][k] ? 1 << k : 0;
            }
            return set;
        }
        int strikes = 0;
        for (int b = 0; b < 4; b++) {
            strikes |= all.strikes[b] ? 1 << b : 0;
        }
        int[] told = {all.tools.size(), all.men.size(), all.works.size(), all.hour, strikes, all.book.size(), all.state,
            all.serving.size(), all.edges.size(), all.rota.size(), past.size(), all.seen.size(), all.rust, all.quota};
        return in(what, 0, 13) ? told[what] : NONE;
    }
}
