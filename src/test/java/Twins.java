import java.util.LinkedHashMap;
import java.util.Map;

/**
 * Two objects made by the same calls, one of which goes through something besides: whether that
 * left all as it was is seen by asking both, then undoing, restoring and reading in both.
 * Of a small town these stay within the 512 calls that an object is used for.
 */
final class Twins {
    interface Calls {
        void on(LostBuyer x);
    }

    private Twins() {
    }

    static LostBuyer made(Calls scene) {
        LostBuyer x = new LostBuyer();
        scene.on(x);
        return x;
    }

    /** Nothing is otherwise than without what happened besides, the latest read's place too. */
    static void unchanged(Due due, String what, Calls scene, Calls besides) {
        LostBuyer x = made(scene);
        LostBuyer y = made(scene);
        besides.on(x);
        due.is(what + ": place()", x.place(), y.place());
        alike(due, what, x, y);
    }

    static void alike(Due due, String what, LostBuyer x, LostBuyer y) {
        same(due, what + ": ", all(x), all(y));
        int undone = 0;
        while (y.undo() && undone < 50) {
            undone++;
            due.is(what + ": undo() " + undone, x.undo(), true);
            same(due, what + ", undone " + undone + ": ", brief(x), brief(y));
        }
        due.is(what + ": undo() of no more", x.undo(), false);
        for (int slot = 0; slot < 3; slot++) {
            due.is(what + ": restore(" + slot + ")", x.restore(slot), y.restore(slot));
            same(due, what + ", slot " + slot + ": ", brief(x), brief(y));
        }
        due.is(what + ": read()", x.read(), y.read());
        due.is(what + ": place() then", x.place(), y.place());
        same(due, what + ", read: ", brief(x), brief(y));
    }

    private static void same(Due due, String what, Map<String, Integer> got, Map<String, Integer> want) {
        due.is(what + "how many answers", got.size(), want.size());
        want.forEach((call, answer) -> due.is(what + call, got.getOrDefault(call, Integer.MIN_VALUE), answer));
    }

    /** What goes on. */
    private static Map<String, Integer> brief(LostBuyer x) {
        Map<String, Integer> a = new LinkedHashMap<>();
        for (int what : new int[] {0, 3, 4, 5, 6, 7, 9, 10, 11, 13}) {
            a.put("count(" + what + ")", x.count(what));
        }
        for (int c = 0; c < x.count(0); c++) {
            a.put("corner(" + c + ", 2)", x.corner(c, 2));
        }
        return a;
    }

    /** All that can be asked. */
    static Map<String, Integer> all(LostBuyer x) {
        Map<String, Integer> a = new LinkedHashMap<>();
        for (int what = 0; what <= 16; what++) {
            a.put("count(" + what + ")", x.count(what));
        }
        int seekers = x.count(2);
        for (int c = 0; c < x.count(0); c++) {
            for (int what = 0; what < 4; what++) {
                a.put("corner(" + c + ", " + what + ")", x.corner(c, what));
            }
            a.put("shortest(" + c + ")", x.shortest(c));
            for (int s = 0; s < seekers; s++) {
                a.put("strays(" + s + ", " + c + ")", x.strays(s, c));
                a.put("passes(" + s + ", " + c + ")", x.passes(s, c));
            }
        }
        for (int l = 0; l < x.count(1); l++) {
            for (int what = 0; what < 3; what++) {
                a.put("lane(" + l + ", " + what + ")", x.lane(l, what));
            }
            a.put("uses(0, " + l + ")", x.uses(0, l));
        }
        for (int s = 0; s < seekers; s++) {
            ofSeeker(a, x, s);
        }
        a.put("who()", x.who());
        a.put("fogIn(1)", x.fogIn(1));
        a.put("fogIn(60)", x.fogIn(60));
        return a;
    }

    private static void ofSeeker(Map<String, Integer> a, LostBuyer x, int s) {
        String of = " of " + s;
        for (int what = 0; what < 3; what++) {
            a.put("seeker " + what + of, x.seeker(s, what));
            a.put("ways " + what + of, x.ways(x.count(10), s, what));
        }
        for (int what = 0; what < 2; what++) {
            a.put("tells " + what + of, x.tells(s, 5, what));
            a.put("span " + what + of, x.span(s, what));
            a.put("clearest " + what + of, x.clearest(s, what));
            a.put("turned " + what + of, x.turned(s, what == 0, 1));
        }
        for (int what = 0; what < 5; what++) {
            a.put("walk " + what + of, x.walk(s, what));
        }
        a.put("comes" + of, x.comes(s));
        a.put("may" + of, x.may(s));
        a.put("straight" + of, x.straight(s));
        a.put("miles" + of, x.miles(s));
        a.put("never" + of, x.never(s));
        a.put("worth" + of, x.worth(s));
        a.put("afraid" + of, x.afraid(s, 5));
        a.put("twice" + of, x.twice(s));
        a.put("waits" + of, x.waits(s, 9, 1));
        a.put("needed" + of, x.needed(s));
        a.put("lead" + of, x.lead(s));
        a.put("year" + of, x.year(s, 20));
        a.put("look" + of, x.look(x.count(10), s));
    }
}
