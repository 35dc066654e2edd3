import java.util.Random;

/** Runs of random calls, each asked of the program and of the Model. The seeds are fixed, so all runs are always the same. */
final class ModelTest {
    private final Random random;
    private final ToolUnion x = new ToolUnion();
    private final Model m = new Model();
    private final String name;
    /** Eight tools and works: the Model is slow then, so such runs are few and short. */
    private final boolean big;
    /** Two kinds alone and no law of serving at first, so that most works have hands. */
    private final boolean gentle;

    private ModelTest(int run) {
        this.random = new Random(run);
        this.name = "run " + run + ": ";
        this.big = run % 20 == 0;
        this.gentle = big || run % 3 == 0;
    }

    public static void main(String[] args) {
        int runs = args.length > 0 ? Integer.parseInt(args[0]) : 400;
        int from = args.length > 1 ? Integer.parseInt(args[1]) : 0;
        for (int run = from; run < from + runs; run++) {
            new ModelTest(run).go();
        }
        Due.finish("ModelTest");
    }

    private int upTo(int most) {
        return random.nextInt(most + 1);
    }

    /** Mostly one that can be, now and then one that can't. */
    private int mostly(int most) {
        switch (upTo(24)) {
            case 0:
                return -1;
            case 1:
                return most + 1;
            case 2:
                return new int[] {Integer.MIN_VALUE, Integer.MAX_VALUE, -2, 1 << 30, 256, 31, 32, 100}[upTo(7)];
            default:
                return most < 0 ? upTo(1) - 1 : upTo(most);
        }
    }

    private String pick(String... of) {
        return of[upTo(of.length - 1)];
    }

    private void go() {
        int tools = big ? 8 : 1 + upTo(5);
        int men = 1 + upTo(3);
        state(random.nextInt());
        for (int i = 0; i < tools; i++) {
            tool(upTo(gentle ? 1 : 3), upTo(3), upTo(1));
            set(0, i, upTo(99));
            set(2, i, upTo(9));
            if (upTo(2) == 0) {
                set(1, i, upTo(99));
            }
        }
        for (int i = 0; i < men; i++) {
            man(upTo(99), upTo(1));
        }
        set(6, 0, 1 + upTo(5 * tools));
        tell(2, hull(big ? 7 + upTo(1) : upTo(6)));
        if (!gentle) {
            tell(0, law(false));
        }
        tell(1, law(true));
        tell(3, rota());
        if (upTo(1) == 0) {
            set(5, 0, upTo(1000));
        }
        for (int i = 0; i < (big ? 60 : 150); i++) {
            call();
        }
        lookAll();
    }

    // texts

    private String unit() {
        return upTo(2) == 0 ? "" + upTo(pick("a", "b").equals("a") ? 9 : 99)
            : pick("skill", "edge", "moods", "today", "kind", "same", "branch", "bell", "weekday", "served");
    }

    private String sum() {
        StringBuilder s = new StringBuilder(unit());
        while (upTo(2) == 0) {
            String sign = pick("+", "-", "*", "/");
            s.append(gap()).append(sign).append(gap()).append(sign.equals("/") ? "" + (upTo(40) == 0 ? 0 : 1 + upTo(9)) : unit());
        }
        return s.toString();
    }

    private String gap() {
        return pick("", " ", "", "\n", "");
    }

    private String test(int depth) {
        switch (depth > 5 ? 4 : upTo(5)) {
            case 0:
                return "not " + test(depth + 1);
            case 1:
                return "(" + gap() + either(depth + 1) + ")";
            default:
                return sum() + gap() + pick("<", "=", ">") + gap() + sum();
        }
    }

    private String either(int depth) {
        StringBuilder s = new StringBuilder(test(depth));
        while (upTo(3) == 0) {
            s.append(" ").append(pick("or", "and")).append(" ").append(test(depth));
        }
        return s.toString();
    }

    private String law(boolean edges) {
        StringBuilder s = new StringBuilder();
        int lines = upTo(30) == 0 ? 17 : upTo(4);
        for (int i = 0; i < lines; i++) {
            s.append(edges ? pick("wear ", "mood ", "like ") + sum() : pick("will", "will", "wont"));
            if (lines < 17 && upTo(3) > 0) {
                s.append(" when ").append(either(0));
            }
            s.append(";").append(gap());
        }
        return s.toString();
    }

    private String hull(int works) {
        StringBuilder s = new StringBuilder();
        for (int i = 0; i < works; i++) {
            s.append("work ").append(upTo(gentle ? 1 : 3)).append(" takes ").append(1 + upTo(2));
            for (int j = 0; j < i; j++) {
                if (upTo(4) == 0) {
                    s.append(" after ").append(j);
                }
            }
            s.append(";").append(gap());
        }
        return s.toString();
    }

    private String rota() {
        StringBuilder s = new StringBuilder();
        int lines = upTo(12);
        for (int i = 0; i < lines; i++) {
            s.append("tool ").append(upTo(Math.max(0, m.all.tools.size() - 1)));
            s.append(" man ").append(upTo(Math.max(0, m.all.men.size() - 1)));
            s.append(" work ").append(upTo(Math.max(0, m.all.works.size() - 1)));
            s.append(" from ").append(m.all.hour + upTo(12)).append(" for ").append(1 + upTo(9)).append(";");
        }
        return s.toString();
    }

    private String spoilt(String text) {
        StringBuilder s = new StringBuilder(text);
        int times = 1 + upTo(1);
        for (int i = 0; i < times && s.length() > 0; i++) {
            int at = upTo(s.length() - 1);
            switch (upTo(3)) {
                case 0:
                    s.deleteCharAt(at);
                    break;
                case 1:
                    s.setLength(at);
                    break;
                case 2:
                    s.insert(at, pick(";", "when ", "(", ")", " 0 ", "12345", "not ", "=", "x", "\t", "\u00e9", "W", "/0", " or ", "9", "work "));
                    break;
                default:
                    s.setCharAt(at, (char) upTo(255));
                    break;
            }
        }
        return s.toString();
    }

    private void tell(int k, String text) {
        String told = text.length() > 400 ? text.substring(0, 400) : text;
        for (int i = 0; i < told.length(); i += 20) {
            int[] five = new int[5];
            for (int j = 0; j < 20; j++) {
                five[j / 4] = five[j / 4] << 8 | (i + j < told.length() ? told.charAt(i + j) : 32);
            }
            is("feed", x.feed(five[0], five[1], five[2], five[3], five[4]), m.feed(five[0], five[1], five[2], five[3], five[4]));
        }
        is("end", x.end(told.length()), m.end(told.length()));
        is("text(" + k + ") of '" + told + "'", x.text(k), m.text(k));
        is("fault(0) of '" + told + "'", x.fault(0), m.fault(0));
        is("fault(1) of '" + told + "'", x.fault(1), m.fault(1));
    }

    // calls

    private void is(String call, long got, long want) {
        Due.is(name + call, got, want);
    }

    private void is(String call, boolean got, boolean want) {
        Due.is(name + call, got, want);
    }

    private void state(int v) {
        is("state(" + v + ")", x.state(v), m.state(v));
    }

    private void tool(int kind, int branch, int left) {
        is("tool(" + kind + ", " + branch + ", " + left + ")", x.tool(kind, branch, left), m.tool(kind, branch, left));
    }

    private void man(int skill, int left) {
        is("man(" + skill + ", " + left + ")", x.man(skill, left), m.man(skill, left));
    }

    private void set(int what, int who, int v) {
        is("set(" + what + ", " + who + ", " + v + ")", x.set(what, who, v), m.set(what, who, v));
    }

    private void lookAll() {
        for (int what = -1; what < 26; what++) {
            is("look(" + what + ")", x.look(what), m.look(what));
        }
        for (int i = -1; i <= m.all.tools.size(); i++) {
            for (int what = -1; what <= 9; what++) {
                is("of(" + i + ", " + what + ")", x.of(i, what), m.of(i, what));
            }
        }
        for (int i = -1; i <= m.all.works.size(); i++) {
            for (int what = -1; what <= 9; what++) {
                is("work(" + i + ", " + what + ")", x.work(i, what), m.work(i, what));
            }
        }
        for (int i = -1; i <= m.all.book.size(); i++) {
            for (int what = -1; what <= 4; what++) {
                is("book(" + i + ", " + what + ")", x.book(i, what), m.book(i, what));
            }
        }
    }

    private void call() {
        switch (upTo(5)) {
            case 0:
                tellOne();
                break;
            case 1:
            case 2:
                think();
                break;
            default:
                ask();
                break;
        }
    }

    private void tellOne() {
        int tool = mostly(m.all.tools.size() - 1);
        int a = mostly(3);
        int b = mostly(3);
        boolean yes = upTo(1) == 0;
        switch (upTo(17)) {
            case 0:
                set(mostly(6), tool, mostly(99));
                break;
            case 1:
            case 2:
                is("mend(" + tool + ", " + yes + ")", x.mend(tool, yes), m.mend(tool, yes));
                break;
            case 3:
                is("strike(" + a + ", " + yes + ")", x.strike(a, yes), m.strike(a, yes));
                break;
            case 4:
            case 5:
                is("may(" + a + ", " + b + ", " + yes + ")", x.may(a, b, yes), m.may(a, b, yes));
                break;
            case 6:
            case 7:
            case 8:
                int n = upTo(9) == 0 ? mostly(60) : 1 + upTo(2);
                is("hours(" + n + ")", x.hours(n), m.hours(n));
                break;
            case 9:
                tell(upTo(1), upTo(2) == 0 ? spoilt(law(yes)) : law(yes));
                break;
            case 10:
                tell(3, upTo(2) == 0 ? spoilt(rota()) : rota());
                break;
            case 11:
                if (upTo(2) == 0) {
                    tell(2, upTo(1) == 0 ? spoilt(hull(upTo(9))) : hull(upTo(6)));
                }
                break;
            case 12:
            case 13:
                is("undo()", x.undo(), m.undo());
                break;
            case 14:
                boolean taken = upTo(2) > 0;
                is("image(" + taken + ")", x.image(taken), m.image(taken));
                break;
            case 15:
                tool(mostly(3), mostly(3), mostly(1));
                man(mostly(99), mostly(1));
                break;
            case 16:
                int k = mostly(3);
                if (upTo(3) == 0) {
                    is("text(" + k + ")", x.text(k), m.text(k));
                    is("fault(0)", x.fault(0), m.fault(0));
                    is("fault(1)", x.fault(1), m.fault(1));
                }
                break;
            default:
                is("feed", x.feed(a, b, tool, a, b), m.feed(a, b, tool, a, b));
                is("end(" + a + ")", x.end(a), m.end(a));
                if (yes) {
                    is("end(0)", x.end(0), m.end(0));
                }
                break;
        }
    }

    private void ask() {
        int tool = mostly(m.all.tools.size() - 1);
        int man = mostly(m.all.men.size() - 1);
        int work = mostly(m.all.works.size() - 1);
        int what = mostly(3);
        switch (upTo(8)) {
            case 0:
                int part = mostly(big ? 9 : 11);
                is("of(" + tool + ", " + part + ")", x.of(tool, part), m.of(tool, part));
                break;
            case 1:
                is("of(" + tool + ", 11)", x.of(tool, 11), m.of(tool, 11));
                break;
            case 2:
                is("at(" + man + ", 2)", x.at(man, 2), m.at(man, 2));
                is("at(" + man + ", " + what + ")", x.at(man, what), m.at(man, what));
                break;
            case 3:
            case 4:
                int of = mostly(8);
                is("work(" + work + ", " + of + ")", x.work(work, of), m.work(work, of));
                break;
            case 5:
                is("serves(" + tool + ", " + man + ")", x.serves(tool, man), m.serves(tool, man));
                break;
            case 6:
                is("tells(" + tool + ", " + man + ", " + what + ")", x.tells(tool, man, what), m.tells(tool, man, what));
                break;
            case 7:
                int line = mostly(m.all.book.size());
                is("book(" + line + ", " + what + ")", x.book(line, what), m.book(line, what));
                break;
            default:
                int seen = mostly(23);
                is("look(" + seen + ")", x.look(seen), m.look(seen));
                break;
        }
    }

    private void think() {
        int tool = mostly(m.all.tools.size() - 1);
        int man = mostly(m.all.men.size() - 1);
        int work = mostly(m.all.works.size() - 1);
        int other = mostly(m.all.works.size() - 1);
        int what = mostly(3);
        int n = mostly(99);
        switch (upTo(11)) {
            case 0:
                if (!big || upTo(7) == 0) {
                    is("soonest(" + what + ")", x.soonest(what), m.soonest(what));
                    is("soonest(1)", x.soonest(1), m.soonest(1));
                }
                break;
            case 1:
                is("few(" + what + ")", x.few(what), m.few(what));
                break;
            case 2:
                int k = upTo(2) == 0 ? mostly(20) : 10 + what;
                is("changes(0)", x.changes(0), m.changes(0));
                is("changes(" + k + ")", x.changes(k), m.changes(k));
                break;
            case 3:
                int set = mostly((1 << m.all.tools.size()) - 1);
                is("vote(" + set + ")", x.vote(set), m.vote(set));
                break;
            case 4:
                is("lasts(" + tool + ", " + man + ")", x.lasts(tool, man), m.lasts(tool, man));
                break;
            case 5:
            case 6:
                int hours = upTo(1) == 0 ? n : 1 + upTo(9);
                is("runs(" + hours + ", " + what + ")", x.runs(hours, what), m.runs(hours, what));
                break;
            case 7:
                is("idle(" + n + ")", x.idle(n), m.idle(n));
                break;
            case 8:
                is("dull(" + tool + ", " + n + ")", x.dull(tool, n), m.dull(tool, n));
                break;
            case 9:
                is("loved()", x.loved(), m.loved());
                is("ready()", x.ready(), m.ready());
                break;
            case 10:
                is("seen(" + work + ", " + other + ")", x.seen(work, other), m.seen(work, other));
                break;
            default:
                int order = big && m.all.works.size() > 7 ? 3 : upTo(1) == 0 ? 0 : 10 + mostly(7);
                is("orders(" + order + ")", x.orders(order), m.orders(order));
                break;
        }
    }
}
