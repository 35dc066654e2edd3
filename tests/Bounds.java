/** What the tests of single sentences share: a small yard, and all that can be seen of it. */
abstract class Bounds {
    static ToolUnion x;

    static void is(String call, long got, long want) {
        Due.is(call, got, want);
    }

    static void is(String call, boolean got, boolean want) {
        Due.is(call, got, want);
    }

    static int tell(int k, String text) {
        return Due.tell(x, k, text);
    }

    static void fault(int k, String text, int fault, int place) {
        Due.fault(x, k, text, fault, place);
    }

    static void fresh() {
        x = new ToolUnion();
    }

    /** Tools 0, 1 of kind 0, tool 2 of kind 1, in branches 0, 1, 2; two men; works 0 and 2 of kind 0, 1 of kind 1 after 0. */
    static void yard() {
        fresh();
        x.tool(0, 0, 0);
        x.tool(0, 1, 1);
        x.tool(1, 2, 0);
        x.man(50, 0);
        x.man(30, 1);
        is("a hull", tell(2, "work 0 takes 2;work 1 takes 1 after 0;work 0 takes 1;"), 3);
    }

    /** As many tools of kind 0 as men, and a hull of works of kind 0, as it is told. */
    static void crew(int many, String hull, int works) {
        fresh();
        for (int i = 0; i < many; i++) {
            x.tool(0, 0, 0);
            x.man(50, 0);
        }
        is("a hull", tell(2, hull), works);
    }

    /** The hours go by until it is this one. */
    static void goTo(int hour) {
        for (int now = x.look(3); now < hour; now += 60) {
            is("hours", x.hours(Math.min(60, hour - now)) >= 0, true);
        }
    }

    /** What a law of edges tells of tool 0 and man 0, as like. */
    static int likes(String e) {
        is("like " + e, tell(1, "like " + e + ";"), 1);
        return x.tells(0, 0, 2);
    }

    /** Whether tool 0 serves man 0 by a law of one will. */
    static int servesWhen(String b) {
        is("will when " + b, tell(0, "will when " + b + ";wont;"), 2);
        return x.serves(0, 0);
    }

    /** What can be seen of the yard: few enough calls for it to be asked twice of an object, of its 512. */
    static String all() {
        StringBuilder s = new StringBuilder();
        for (int what = 0; what < 24; what++) {
            s.append(x.look(what)).append(' ');
        }
        for (int i = 0; i < x.look(0); i++) {
            for (int what = 0; what < 12; what++) {
                s.append(x.of(i, what)).append(' ');
            }
            s.append(x.serves(i, 0)).append(' ').append(x.tells(i, 0, 0)).append(' ').append(x.dull(i, 99)).append(' ');
        }
        for (int i = 0; i < x.look(1); i++) {
            s.append(x.at(i, 0)).append(' ').append(x.at(i, 1)).append(' ').append(x.at(i, 2)).append(' ');
        }
        for (int i = 0; i < x.look(2); i++) {
            for (int what = 0; what < 9; what++) {
                s.append(x.work(i, what)).append(' ');
            }
        }
        for (int i = 0; i < x.look(5); i++) {
            s.append(x.book(i, 0)).append(' ').append(x.book(i, 3)).append(' ');
        }
        s.append(x.runs(20, 0)).append(' ').append(x.runs(20, 1)).append(' ').append(x.orders(0)).append(' ').append(x.fault(0));
        return s.toString();
    }

    /** The calls that were made since all() told this have changed nothing. */
    static void nothingChanged(String before) {
        is("nothing is changed", all().equals(before), true);
    }
}
