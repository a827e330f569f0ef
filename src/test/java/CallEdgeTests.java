/**
 * The sentences of promises 6 to 44, and of 'Terms', parts III and IV, that name a boundary: the last
 * value that is taken and the first that is refused, on both sides, what is answered then, and that
 * a refused call leaves all as it was.
 *
 * SWING is that of TermEdgeTests: of s, who sets out at a, the WAYS are to STRAY at STEP 1, 3, 5 or
 * 7, or never, in 16,384, 12,288, 9,216, 6,912 and 20,736 CASES.
 */
public final class CallEdgeTests {
    private static final Due due = new Due();

    private static final String FULL = "corner a 1; corner b 2; corner c 3; corner d 4; corner e 5; corner f 6; corner g 7; "
            + "lane a b 1; lane b c 2; lane c d 3; lane d e 4; lane e f 5; lane f g 6; lane g a 7; lane a c 8; lane c e 9; "
            + "lane b f 1; house g; post a 5; seeker p 1 a; seeker q 2 b; seeker r 3 c; seeker s 4 d; seeker t 5 e; "
            + "wrong 2; mist 3; seed 4321; asks = miles * 7; fears = 90 - miles; thickens = fog + 1; ";
    private static final String SWING = "corner a 0; corner b 1; corner h 0; corner z 0; lane a b 1; lane b h 1; lane z a 1; "
            + "house h; strays = dark; wrong 0; seeker s 0 a; seeker t 0 b; seeker u 0 z; ";
    private static final String LINE = "corner a 0; corner h 0; lane a h 1; house h; wrong 0; seeker s 0 a; ";
    private static final String TRIANGLE = "corner a 1; corner b 2; corner h 3; corner z 4; lane a h 2; lane a b 1; lane b h 5; "
            + "house h; seeker s 3 a; seeker t 5 b; seeker u 0 z; ";

    private static void put(LostBuyer x, String text) {
        Due.type(x, text);
        due.is("read() of " + text, x.read(), 0);
    }

    // ---- scenes

    /** Seven CORNERS, ten LANES, five SEEKERS HOME, three TOLD, three SLOTS, twenty bytes on the tape. */
    private static void fullHome(LostBuyer x) {
        put(x, FULL + "strays = 1 + fog / 5;");
        x.hold(0);
        x.fog(true);
        x.turn(1, 1);
        x.hold(1);
        x.days(2);
        x.hold(2);
        x.turn(2, 1);
        x.tell(0, 1, 1, true);
        x.tell(1, 8, 6, true);
        x.tell(0, 3, 3, false);
        Due.type(x, "corner k 7; mist 2; ");
    }

    /** The same, but nobody STRAYS, and all are OUT. */
    private static void fullOut(LostBuyer x) {
        put(x, FULL + "strays = 0;");
        x.hold(0);
        for (int s = 0; s < 5; s++) {
            x.send(s);
        }
    }

    private static void one(LostBuyer x) {
        put(x, "corner a 4; seeker s 6 a; mist 1;");
        x.fog(true);
        x.hold(1);
        x.tell(0, 0, 0, true);
    }

    private static void sold(LostBuyer x) {
        put(x, TRIANGLE + "strays = 4;");
        x.send(2);
        x.hold(2);
        x.send(0);
        x.fog(true);
    }

    // ---- numbers that are taken and refused

    private interface Asked {
        long of(LostBuyer x, int n);
    }

    private static void refused(String call, Twins.Calls scene, Asked asked, int n, int no) {
        due.is(call + " with " + n, asked.of(Twins.made(scene), n), no);
        Twins.unchanged(due, call + " with " + n, scene, x -> asked.of(x, n));
    }

    /** Takes least and most, refuses what is beside them; no: what a refused call answers. */
    private static void range(String call, Twins.Calls scene, Asked asked, int least, int most, int no) {
        if (least <= most) {
            due.is(call + " takes " + least, asked.of(Twins.made(scene), least) != no, true);
            due.is(call + " takes " + most, asked.of(Twins.made(scene), most) != no, true);
        }
        refused(call, scene, asked, least - 1, no);
        refused(call, scene, asked, most + 1, no);
        refused(call, scene, asked, Integer.MIN_VALUE, no);
        refused(call, scene, asked, Integer.MAX_VALUE, no);
    }

    private static int yes(boolean answer) {
        return answer ? 1 : 0;
    }

    /** "NONE: no such SEEKER", "NONE: no such ones", of SEEKERS numbered from 0 on. */
    private static void seekers(Twins.Calls scene, int most) {
        range("seeker(n, 0)", scene, (x, n) -> x.seeker(n, 0), 0, most, -1);
        range("strays(n, 0)", scene, (x, n) -> x.strays(n, 0), 0, most, -1);
        range("tells(n, 0, 0)", scene, (x, n) -> x.tells(n, 0, 0), 0, most, -1);
        range("send(n)", scene, (x, n) -> x.send(n), 0, most, -1);
        range("comes(n)", scene, (x, n) -> x.comes(n), 0, most, -1);
        range("may(n)", scene, (x, n) -> x.may(n), 0, most, -1);
        range("straight(n)", scene, (x, n) -> x.straight(n), 0, most, -1);
        range("miles(n)", scene, (x, n) -> x.miles(n), 0, most, -1);
        range("passes(n, 0)", scene, (x, n) -> x.passes(n, 0), 0, most, -1);
        range("never(n)", scene, (x, n) -> x.never(n), 0, most, -1);
        range("worth(n)", scene, (x, n) -> x.worth(n), 0, most, -1);
        range("afraid(n, 0)", scene, (x, n) -> x.afraid(n, 0), 0, most, -1);
        range("span(n, 0)", scene, (x, n) -> x.span(n, 0), 0, most, -1);
        range("twice(n)", scene, (x, n) -> x.twice(n), 0, most, -1);
        range("clearest(n, 0)", scene, (x, n) -> x.clearest(n, 0), 0, most, -1);
        range("waits(n, 0, 0)", scene, (x, n) -> x.waits(n, 0, 0), 0, most, -1);
        range("needed(n)", scene, (x, n) -> x.needed(n), 0, most, -1);
        range("turned(n, true, 0)", scene, (x, n) -> x.turned(n, true, 0), 0, most, -1);
        range("turned(n, false, 1)", scene, (x, n) -> x.turned(n, false, 1), 0, most, -1);
        range("lead(n)", scene, (x, n) -> x.lead(n), 0, most, -1);
        range("walk(n, 0)", scene, (x, n) -> x.walk(n, 0), 0, most, -1);
        range("year(n, 1)", scene, (x, n) -> x.year(n, 1), 0, most, -1);
        range("tell(n, 0, 0, true)", scene, (x, n) -> x.tell(n, 0, 0, true), 0, most, -1);
        range("ways(0, n, 0)", scene, (x, n) -> x.ways(0, n, 0), 0, most, -1);
        range("look(0, n)", scene, (x, n) -> x.look(0, n), 0, most, -1);
    }

    private static void corners(Twins.Calls scene, int most) {
        range("corner(n, 0)", scene, (x, n) -> x.corner(n, 0), 0, most, -1);
        range("corner(n, 2)", scene, (x, n) -> x.corner(n, 2), 0, most, -1);
        range("strays(0, n)", scene, (x, n) -> x.strays(0, n), 0, most, -1);
        range("passes(0, n)", scene, (x, n) -> x.passes(0, n), 0, most, -1);
        range("shortest(n)", scene, (x, n) -> x.shortest(n), 0, most, -1);
        range("tell(0, 0, n, false)", scene, (x, n) -> x.tell(0, 0, n, false), 0, most, -1);
    }

    private static void lanes(Twins.Calls scene, int most) {
        range("lane(n, 0)", scene, (x, n) -> x.lane(n, 0), 0, most, -1);
        range("uses(0, n)", scene, (x, n) -> x.uses(0, n), 0, most, -1);
    }

    /** Of which there are none, the first is refused already. */
    private static void asMany() {
        seekers(CallEdgeTests::fullHome, 4);
        corners(CallEdgeTests::fullHome, 6);
        lanes(CallEdgeTests::fullHome, 9);
        range("turn(n, 7)", CallEdgeTests::fullHome, (x, n) -> yes(x.turn(n, 7)), 0, 6, 0);
        range("call(n)", CallEdgeTests::fullOut, (x, n) -> yes(x.call(n)), 0, 4, 0);
        seekers(CallEdgeTests::one, 0);
        corners(CallEdgeTests::one, 0);
        lanes(CallEdgeTests::one, -1);
        range("turn(n, 7), no LANES", CallEdgeTests::one, (x, n) -> yes(x.turn(n, 7)), 0, -1, 0);
        range("call(n), nobody OUT", CallEdgeTests::one, (x, n) -> yes(x.call(n)), 0, -1, 0);
        Twins.Calls nothing = x -> x.fog(true);
        seekers(nothing, -1);
        corners(nothing, -1);
        lanes(nothing, -1);
        range("turn(n, 7) of nothing", nothing, (x, n) -> yes(x.turn(n, 7)), 0, -1, 0);
        range("call(n) of nothing", nothing, (x, n) -> yes(x.call(n)), 0, -1, 0);
        // CORNERS, but no SEEKERS
        Twins.Calls nobody = x -> put(x, "corner a 0; corner b 0; lane a b 1;");
        seekers(nobody, -1);
        range("corner(n, 0) of two", nobody, (x, n) -> x.corner(n, 0), 0, 1, -1);
        range("lane(n, 0) of one", nobody, (x, n) -> x.lane(n, 0), 0, 0, -1);
        range("shortest(n) of two", nobody, (x, n) -> x.shortest(n), 0, 1, -1);
    }

    /** "what 0 .. 1 .. NONE for others", and the numbers that stand in brackets. */
    private static void whats() {
        Twins.Calls full = CallEdgeTests::fullHome;
        range("corner(0, n)", full, (x, n) -> x.corner(0, n), 0, 3, -1);
        range("lane(0, n)", full, (x, n) -> x.lane(0, n), 0, 2, -1);
        range("seeker(0, n)", full, (x, n) -> x.seeker(0, n), 0, 2, -1);
        range("tells(0, n, 0)", full, (x, n) -> x.tells(0, n, 0), 0, 99, -1);
        range("tells(0, n, 1)", full, (x, n) -> x.tells(0, n, 1), 0, 99, -1);
        range("tells(0, 0, n)", full, (x, n) -> x.tells(0, 0, n), 0, 1, -1);
        range("turn(0, n)", full, (x, n) -> yes(x.turn(0, n)), 0, 9, 0);
        range("days(n)", full, (x, n) -> x.days(n), 0, 60, -1);
        range("afraid(0, n)", full, (x, n) -> x.afraid(0, n), 0, 999, -1);
        range("span(0, n)", full, (x, n) -> x.span(0, n), 0, 1, -1);
        range("clearest(0, n)", full, (x, n) -> x.clearest(0, n), 0, 1, -1);
        range("waits(0, n, 0)", full, (x, n) -> x.waits(0, n, 0), 0, 30, -1);
        range("waits(0, n, 1)", full, (x, n) -> x.waits(0, n, 1), 0, 30, -1);
        range("waits(0, 0, n)", full, (x, n) -> x.waits(0, 0, n), 0, 1, -1);
        range("turned(0, true, n)", full, (x, n) -> x.turned(0, true, n), 0, 1, -1);
        range("turned(0, false, n)", full, (x, n) -> x.turned(0, false, n), 0, 1, -1);
        range("walk(0, n)", full, (x, n) -> x.walk(0, n), 0, 4, -1);
        range("fogIn(n)", full, (x, n) -> x.fogIn(n), 0, 60, -1);
        range("year(0, n)", full, (x, n) -> x.year(0, n), 1, 20, -1);
        range("tell(0, n, 0, true)", full, (x, n) -> x.tell(0, n, 0, true), 0, 8, -1);
        range("ways(n, 0, 0)", full, (x, n) -> x.ways(n, 0, 0), 0, 3, -1);
        range("ways(0, 0, n)", full, (x, n) -> x.ways(0, 0, n), 0, 2, -1);
        range("look(n, 0)", full, (x, n) -> x.look(n, 0), 0, 3, -1);
        range("hold(n)", full, (x, n) -> yes(x.hold(n)), 0, 2, 0);
        range("restore(n)", full, (x, n) -> yes(x.restore(n)), 0, 2, 0);
        range("count(n)", full, (x, n) -> x.count(n), 0, 16, -1);
        range("back(n)", full, (x, n) -> x.back(n), 0, 20, -1);
        // nothing TOLD: by 0 alone
        range("ways(n, 0, 0), nothing TOLD", CallEdgeTests::sold, (x, n) -> x.ways(n, 0, 0), 0, 0, -1);
        range("look(n, 0), nothing TOLD", CallEdgeTests::sold, (x, n) -> x.look(n, 0), 0, 0, -1);
        // nothing was turned to it, so 0 is refused, too
        range("turn(6, n), not 0", full, (x, n) -> yes(x.turn(6, n)), 1, 9, 0);
    }

    /** "What would be (nothing happens)" */
    private static void nothingHappens() {
        Twins.Calls[] scenes = {CallEdgeTests::fullHome, CallEdgeTests::fullOut, CallEdgeTests::one, CallEdgeTests::sold,
            x -> put(x, SWING), x -> x.fog(true)};
        for (int i = 0; i < scenes.length; i++) {
            Twins.unchanged(due, "all asked in scene " + i, scenes[i], Twins::all);
        }
        // nor is anything left of what was asked while there were more WALKS
        Twins.unchanged(due, "all asked in more FOG", y -> put(y, SWING + "strays = dark * fog;"), y -> {
            y.fog(true);
            Twins.all(y);
            y.undo();
        });
        LostBuyer x = due.of(SWING + "strays = dark * fog;");
        for (int s = 0; s < 3; s++) {
            due.is("MAY by FOG", x.clearest(s, 1), 65536);
            due.is("WORTH without FOG", x.worth(s), 0);
            due.is("MAY by FOG", x.clearest(s, 0), 4);
            due.is("NEVER without FOG", x.never(s), s == 2 ? 4 : 12);
            due.is("MAY by FOG", x.clearest(s, 0), 4);
            due.is("SPAN without FOG", x.span(s, 1), -2);
        }
        Twins.unchanged(due, "all asked of a turned SIGN", y -> put(y, TRIANGLE + "strays = fog; mist 2; post b 1;"), y -> {
            y.turn(0, 1);
            Twins.all(y);
            y.undo();
        });
    }

    // ---- promises 6 to 10

    /** Promise 6: "1 its LANES (bits), 2 which LANE the SIGN shows (-2: no LANES), 3: 1 the HOUSE is there, else 0" */
    private static void corner() {
        LostBuyer x = due.of("corner a 0; corner b 9; corner c 3; lane a b 1; lane b a 2; lane a b 3; lane a b 4; lane a b 5; "
                + "lane a b 6; lane a b 7; lane a b 8; lane a b 9; lane a b 1; post a 9; house b;");
        int[][] want = {{0, 1023, 9, 0}, {9, 1023, 0, 1}, {3, 0, -2, 0}};
        for (int c = 0; c < 3; c++) {
            for (int what = 0; what < 4; what++) {
                due.is("corner(" + c + ", " + what + ")", x.corner(c, what), want[c][what]);
            }
        }
        // the HOUSE may be where no LANES are
        LostBuyer y = due.of("corner a 0; corner b 0; corner h 0; lane a b 1; house h;");
        due.is("the SIGN at a HOUSE without LANES", y.corner(2, 2), -2);
        due.is("the HOUSE without LANES", y.corner(2, 3), 1);
        due.is("not the HOUSE", y.corner(0, 3), 0);
    }

    /** Promise 8: "2: 0 HOME, 1 OUT, 2 bought" */
    private static void seeker() {
        LostBuyer x = due.of(TRIANGLE + "strays = 4;");
        due.is("HOME", x.seeker(2, 2), 0);
        x.send(2);
        due.is("OUT", x.seeker(2, 2), 1);
        x.send(0);
        due.is("bought", x.seeker(0, 2), 2);
        due.is("HOME still", x.seeker(1, 2), 0);
        x.days(60);
        due.is("bought still", x.seeker(0, 2), 2);
        due.is("OUT still", x.seeker(2, 2), 1);
        due.is("where they set out from, still", x.seeker(0, 1), 0);
    }

    /** Promise 9: "STRAYS of a SEEKER at a CORNER now (no LANES: 0)" */
    private static void strays() {
        LostBuyer x = due.of(TRIANGLE + "strays = 3;");
        due.is("at a CORNER with LANES", x.strays(0, 0), 3);
        due.is("at the HOUSE", x.strays(0, 2), 3);
        due.is("no LANES", x.strays(0, 3), 0);
        due.is("no LANES, not told", due.of(TRIANGLE).strays(0, 3), 0);
        LostBuyer y = due.of(TRIANGLE + "strays = fog + day;");
        due.is("now", y.strays(0, 0), 0);
        y.fog(true);
        due.is("by FOG", y.strays(0, 0), 1);
        y.days(2);
        due.is("by the day", y.strays(0, 0), 3);
        y.undo();
        due.is("undone", y.strays(0, 0), 1);
    }

    /** Promise 10: "so many miles (0 .. 99)" */
    private static void tells() {
        LostBuyer x = due.of(TRIANGLE + "asks = miles; fears = 999 - miles;");
        for (int miles : new int[] {0, 1, 98, 99}) {
            due.is("ASKS of " + miles, x.tells(0, miles, 0), miles);
            due.is("FEARS of " + miles, x.tells(0, miles, 1), 999 - miles);
        }
        LostBuyer y = due.of(TRIANGLE);
        for (int miles : new int[] {0, 99}) {
            due.is("ASKS of " + miles + ", not told", y.tells(2, miles, 0), miles);
            due.is("FEARS of " + miles + ", not told", y.tells(2, miles, 1), miles);
        }
    }

    // ---- promises 11 to 16

    /** Promise 11: "NONE, and nothing happens: SOLD, not HOME, no such SEEKER." */
    private static void send() {
        refused("send, SOLD, HOME", CallEdgeTests::sold, (x, n) -> x.send(n), 1, -1);
        refused("send, SOLD, OUT", CallEdgeTests::sold, (x, n) -> x.send(n), 2, -1);
        refused("send, who bought", CallEdgeTests::sold, (x, n) -> x.send(n), 0, -1);
        for (int s = 0; s < 5; s++) {
            refused("send, OUT", CallEdgeTests::fullOut, (x, n) -> x.send(n), s, -1);
        }
        LostBuyer x = Twins.made(CallEdgeTests::sold);
        due.is("called home", x.call(2), true);
        due.is("send of one called home, SOLD", x.send(2), -1);
        due.is("not SOLD any more", x.undo() && x.undo() && x.undo(), true);
        due.is("OUT still", x.send(2), -1);
        due.is("called home again", x.call(2), true);
        due.is("sent again", x.send(2), 3);
        due.is("the next one", x.send(1), 2);
        due.is("bought", x.count(5), 1);
        // t STRAYS at once, 5 miles; s goes by b, 6
        due.is("for the miles walked", x.count(6), 5);
        due.is("undo()", x.undo(), true);
        due.is("send(0)", x.send(0), 2);
        due.is("for the miles walked", x.count(6), 6);
    }

    /** Promise 12: "false, and nothing happens: it is that number already (0, if nothing was told, nor turned to), no LANES, no such ones" */
    private static void turn() {
        Twins.Calls scene = x -> {
            put(x, TRIANGLE + "post b 3;");
            x.turn(2, 5);
        };
        refused("turn(0, n) as not told", scene, (x, n) -> yes(x.turn(0, n)), 0, 0);
        refused("turn(1, n) as told", scene, (x, n) -> yes(x.turn(1, n)), 3, 0);
        refused("turn(2, n) as turned to", scene, (x, n) -> yes(x.turn(2, n)), 5, 0);
        for (int n = 0; n <= 9; n++) {
            refused("turn(3, n), no LANES", scene, (x, k) -> yes(x.turn(3, k)), n, 0);
        }
        LostBuyer x = Twins.made(scene);
        // another number that shows the same LANE is a thing done
        due.is("turn(0, 2)", x.turn(0, 2), true);
        due.is("shows as ahead", x.corner(0, 2), 0);
        due.is("a thing done", x.count(9), 2);
        due.is("turn(0, 2) again", x.turn(0, 2), false);
        due.is("turn(0, 0)", x.turn(0, 0), true);
        due.is("turn(0, 0) again", x.turn(0, 0), false);
        due.is("undo()", x.undo(), true);
        due.is("turned to 2 as ahead", x.turn(0, 2), false);
        due.is("turn(1, 0)", x.turn(1, 0), true);
        due.is("turn(1, 3) as was told", x.turn(1, 3), true);
        due.is("turn(1, 9)", x.turn(1, 9), true);
        due.is("shows by 9", x.corner(1, 2), 2);
        due.is("turn(2, 0), at the HOUSE", x.turn(2, 0), true);
    }

    /** Promise 13: "false, and nothing happens: 9, 0 are there" */
    private static void fog() {
        for (int mist = 0; mist <= 9; mist++) {
            LostBuyer x = due.of("mist " + mist + ";");
            due.is("let in at " + mist, x.fog(true), mist < 9);
            due.is("FOG then", x.count(4), Math.min(9, mist + 1));
            due.is("things done", x.count(9), mist < 9 ? 1 : 0);
            LostBuyer y = due.of("mist " + mist + ";");
            due.is("blown off at " + mist, y.fog(false), mist > 0);
            due.is("FOG then", y.count(4), Math.max(0, mist - 1));
            due.is("things done", y.count(9), mist > 0 ? 1 : 0);
        }
        refused("fog(true) at 9", x -> put(x, TRIANGLE + "mist 9;"), (x, n) -> yes(x.fog(true)), 9, 0);
        refused("fog(false) at 0", x -> put(x, TRIANGLE), (x, n) -> yes(x.fog(false)), 0, 0);
        refused("fog(true) let in to 9", x -> {
            put(x, TRIANGLE + "mist 8;");
            x.fog(true);
        }, (x, n) -> yes(x.fog(true)), 9, 0);
        refused("fog(false) of a new object", x -> x.days(1), (x, n) -> yes(x.fog(false)), 0, 0);
    }

    /** Promise 14: "false, and nothing happens: not OUT, no such SEEKER" */
    private static void call() {
        refused("call, who bought", CallEdgeTests::sold, (x, n) -> yes(x.call(n)), 0, 0);
        refused("call, HOME", CallEdgeTests::sold, (x, n) -> yes(x.call(n)), 1, 0);
        LostBuyer x = Twins.made(CallEdgeTests::sold);
        due.is("call, OUT", x.call(2), true);
        due.is("HOME then", x.count(7), 6);
        due.is("OUT then", x.count(13), 0);
        due.is("call again", x.call(2), false);
        for (int s = 0; s < 5; s++) {
            refused("call, HOME", CallEdgeTests::fullHome, (y, n) -> yes(y.call(n)), s, 0);
        }
    }

    /** Promise 15: "n DAYS (0 .. 60; 0 is no thing done) go by: which it is" */
    private static void days() {
        LostBuyer x = due.of("thickens = fog + 1;");
        due.is("days(0)", x.days(0), 0);
        due.is("things done", x.count(9), 0);
        due.is("days(60)", x.days(60), 60);
        due.is("things done", x.count(9), 1);
        due.is("FOG", x.count(4), 9);
        due.is("days(0) on day 60", x.days(0), 60);
        due.is("things done", x.count(9), 1);
        due.is("days(1)", x.days(1), 61);
        due.is("days(60)", x.days(60), 121);
        due.is("undo() of 60 days at once", x.undo(), true);
        due.is("day", x.count(3), 61);
        Twins.unchanged(due, "days(0)", CallEdgeTests::fullHome, y -> y.days(0));
        // nor is the first of forty things lost by it
        Twins.unchanged(due, "days(0) behind 40 things", y -> {
            for (int i = 0; i < 40; i++) {
                y.days(1 + i % 3);
            }
        }, y -> y.days(0));
    }

    private static void doOne(LostBuyer x, int i) {
        switch (i % 6) {
            case 0:
                due.is("fog(true)", x.fog(true), true);
                break;
            case 1:
                due.is("turn", x.turn(0, 1 + i / 6), true);
                break;
            case 2:
                due.is("send", x.send(0) >= 0, true);
                break;
            case 3:
                due.is("days", x.days(1 + i % 4) > 0, true);
                break;
            case 4:
                due.is("call", x.call(0), true);
                break;
            default:
                due.is("fog(false)", x.fog(false), true);
        }
    }

    private static String state(LostBuyer x) {
        return x.count(3) + " " + x.count(4) + " " + x.count(5) + " " + x.count(6) + " " + x.count(7) + " " + x.count(13) + " "
                + x.corner(0, 2) + x.corner(1, 2) + x.corner(2, 2);
    }

    /** Promise 16: "The last thing done (send, turn, fog, call, days) is undone: true; false: there is none (the last 40 can be)." */
    private static void undo() {
        for (int many : new int[] {0, 1, 2, 39, 40, 41, 42, 53}) {
            LostBuyer x = due.of(TRIANGLE + "strays = 0; thickens = day;");
            String[] states = new String[many + 1];
            for (int i = 0; i < many; i++) {
                states[i] = state(x);
                doOne(x, i);
                due.is("count(9)", x.count(9), Math.min(i + 1, 40));
            }
            int can = Math.min(many, 40);
            for (int i = 1; i <= can; i++) {
                due.is("undo() " + i + " of " + many, x.undo(), true);
                due.is("as ahead of it: " + states[many - i] + ", got " + state(x), state(x).equals(states[many - i]), true);
                due.is("count(9)", x.count(9), can - i);
            }
            String last = state(x);
            due.is("undo() of no more of " + many, x.undo(), false);
            due.is("undo() again", x.undo(), false);
            due.is("nothing then", state(x).equals(last), true);
        }
        Twins.unchanged(due, "undo() of nothing", x -> put(x, TRIANGLE), LostBuyer::undo);
        Twins.unchanged(due, "done and undone", CallEdgeTests::sold, x -> {
            x.fog(true);
            x.days(3);
            x.undo();
            x.undo();
        });
        // things done behind undone ones
        LostBuyer x = new LostBuyer();
        x.days(1);
        x.days(2);
        x.undo();
        x.days(5);
        due.is("day", x.count(3), 6);
        due.is("things", x.count(9), 2);
        due.is("undo()", x.undo(), true);
        due.is("day", x.count(3), 1);
        due.is("undo()", x.undo(), true);
        due.is("day", x.count(3), 0);
        due.is("undo()", x.undo(), false);
    }

    /** Promise 16: only send, turn, fog, call, days are things done; all else is not undone. */
    private static void notUndone() {
        LostBuyer x = due.of(TRIANGLE);
        x.tell(0, 1, 1, true);
        x.hold(1);
        Due.type(x, "mist 5;");
        due.is("things done", x.count(9), 0);
        due.is("undo()", x.undo(), false);
        x.days(1);
        x.tell(0, 2, 1, true);
        x.hold(2);
        Due.type(x, " ");
        due.is("things done", x.count(9), 1);
        due.is("undo()", x.undo(), true);
        due.is("TOLD as ahead", x.count(10), 2);
        due.is("SLOTS as ahead", x.count(11), 2);
        due.is("tape as ahead", x.count(8), 8);
        x.forget();
        due.is("forget() is no thing done", x.count(9), 0);
        due.is("restore(2)", x.restore(2), true);
        due.is("day of SLOT 2", x.count(3), 1);
        due.is("SOLD is undone", soldUndone(), -2);
    }

    private static int soldUndone() {
        LostBuyer x = due.of(LINE + "strays = 4; asks = 77;");
        x.send(0);
        due.is("for how much", x.count(6), 77);
        x.undo();
        due.is("for how much, undone", x.count(6), 0);
        due.is("HOME, undone", x.seeker(0, 2), 0);
        return x.count(5);
    }

    // ---- promises 17 to 27

    /** Promises 17 to 20: of 0 and of all CASES. */
    private static void ofCases() {
        LostBuyer x = due.of(SWING);
        int[] comes = {44800, 44800, 37888};
        int[] sent = {16384 * 2 + 12288 * 4 + 9216 * 6 + 6912 * 8 + 20736 * 8, 16384 + 12288 * 3 + 9216 * 5 + 6912 * 7 + 20736 * 8,
            16384 * 3 + 12288 * 5 + 9216 * 7 + 27648 * 8};
        for (int s = 0; s < 3; s++) {
            due.is("comes(" + s + ")", x.comes(s), comes[s]);
            due.is("may(" + s + ")", x.may(s), comes[s]);
            due.is("straight(" + s + ")", x.straight(s), 0);
            due.is("miles(" + s + ")", x.miles(s), sent[s]);
        }
        x.turn(1, 1);
        due.is("straight by the turned SIGN", x.straight(0), 49152);
        due.is("comes by the turned SIGN", x.comes(0), 49152 + 12288 + 3072 + 768);
        due.is("may by the turned SIGN", x.may(0), 12288 + 3072 + 768);
        LostBuyer y = due.of(LINE + "strays = 0;");
        due.is("comes in all", y.comes(0), 65536);
        due.is("straight in all", y.straight(0), 65536);
        due.is("may in none", y.may(0), 0);
        LostBuyer z = due.of(LINE + "strays = 4;");
        due.is("may in all", z.may(0), 65536);
        due.is("straight in none", z.straight(0), 0);
        // HOME or not
        z.send(0);
        due.is("may of who bought", z.may(0), 65536);
        LostBuyer out = Twins.made(CallEdgeTests::fullOut);
        LostBuyer home = due.of(FULL + "strays = 0;");
        for (int s = 0; s < 5; s++) {
            due.is("comes, OUT or HOME", out.comes(s), home.comes(s));
            due.is("miles, OUT or HOME", out.miles(s), home.miles(s));
        }
    }

    /** Promises 21, 22: "in how many they are there at some time (where they set out, too)", "CORNERS where they never are" */
    private static void passes() {
        LostBuyer x = due.of(SWING);
        int[][] passes = {{65536, 65536, 44800, 0}, {49152, 65536, 44800, 0}, {65536, 65536, 37888, 65536}};
        int[] never = {8, 8, 0};
        for (int s = 0; s < 3; s++) {
            for (int c = 0; c < 4; c++) {
                due.is("passes(" + s + ", " + c + ")", x.passes(s, c), passes[s][c]);
            }
            due.is("never(" + s + ")", x.never(s), never[s]);
        }
        // behind the last STEP, too: STEP 7 of eight leads there
        LostBuyer y = due.of(SWING + "post b 1;");
        due.is("passes a, from b, by STRAYING alone", y.passes(1, 0), 16384);
        due.is("never of seven", due.of("corner a 0; corner b 0; corner c 0; corner d 0; corner e 0; corner f 0; corner g 0; "
                + "seeker s 0 g;").never(0), 63);
        due.is("never of one", due.of("corner a 0; seeker s 0 a;").never(0), 0);
    }

    /** Promise 23: "ASKS of their miles, of all CASES by which they MAY BUY, added" */
    private static void worth() {
        due.is("worth", due.of(SWING).worth(0), 16384 * 2 + 12288 * 4 + 9216 * 6 + 6912 * 8);
        due.is("worth of WRONG 5", due.of(SWING + "wrong 5;").worth(0), 6912 * 8);
        due.is("worth of WRONG 7", due.of(SWING + "wrong 7;").worth(0), 0);
        due.is("worth, asked for 0", due.of(SWING + "asks = miles - 8;").worth(0), 0);
        due.is("worth, asked for a mile above 7", due.of(SWING + "asks = miles - 7;").worth(0), 6912);
        due.is("the most that can be", due.of(LINE + "strays = 4; asks = 9999;").worth(0), 65536 * 999);
        due.is("worth of who does not STRAY", due.of(LINE + "strays = 0; asks = 9999;").worth(0), 0);
    }

    /** Promise 24: "AFRAID of v (0 .. 999): in how many they COME and FEARS of their miles tells v or more" */
    private static void afraid() {
        LostBuyer x = due.of(SWING);
        int[] afraid = {44800, 44800, 44800, 28416, 28416, 16128, 16128, 6912, 6912, 0};
        for (int v = 0; v < afraid.length; v++) {
            due.is("afraid of " + v, x.afraid(0, v), afraid[v]);
        }
        due.is("afraid of 999", x.afraid(0, 999), 0);
        LostBuyer y = due.of(SWING + "fears = 991 + miles;");
        due.is("afraid of 999, by 8 miles", y.afraid(0, 999), 6912);
        due.is("afraid of 998", y.afraid(0, 998), 6912);
        due.is("afraid of 997", y.afraid(0, 997), 16128);
        LostBuyer z = due.of(SWING + "fears = 2000;");
        due.is("afraid of 999, held to that", z.afraid(0, 999), 44800);
        due.is("afraid of 1000", z.afraid(0, 1000), -1);
        LostBuyer none = due.of(SWING + "fears = 0 - 3;");
        due.is("afraid of 0, held to that", none.afraid(0, 0), 44800);
        due.is("afraid of 1", none.afraid(0, 1), 0);
        // who COMES without STRAYING may be afraid, too
        due.is("afraid and straight", due.of(LINE + "strays = 0; fears = 5;").afraid(0, 5), 65536);
    }

    /** Promise 25: "-2: there is none" .. "(in one CASE at least)" */
    private static void span() {
        int[][] spans = {{2, 8}, {4, 8}, {4, 8}, {6, 8}, {6, 8}, {8, 8}, {8, 8}, {-2, -2}};
        for (int wrong = 0; wrong < spans.length; wrong++) {
            LostBuyer x = due.of(SWING + "wrong " + wrong + ";");
            due.is("fewest of WRONG " + wrong, x.span(0, 0), spans[wrong][0]);
            due.is("most of WRONG " + wrong, x.span(0, 1), spans[wrong][1]);
        }
        // who COMES, but never MAY BUY
        due.is("span of who never STRAYS", due.of(LINE + "strays = 0;").span(0, 0), -2);
        due.is("span of who never STRAYS", due.of(LINE + "strays = 0;").span(0, 1), -2);
        // always STRAYING, the WALK by the SIGN is in no CASE
        LostBuyer y = due.of("corner a 0; corner h 0; lane a h 9; lane a h 5; house h; wrong 0; strays = 4; seeker s 0 a;");
        due.is("fewest of one WALK", y.span(0, 0), 5);
        due.is("most of one WALK", y.span(0, 1), 5);
    }

    /** Promises 26, 27: "walk along it once or more", "at some CORNER behind two unlike numbers of STEPS" */
    private static void usesAndTwice() {
        LostBuyer x = due.of(SWING);
        int[][] uses = {{65536, 44800, 0}, {49152, 44800, 0}, {65536, 37888, 65536}};
        int[] twice = {49152, 49152, 49152};
        for (int s = 0; s < 3; s++) {
            for (int l = 0; l < 3; l++) {
                due.is("uses(" + s + ", " + l + ")", x.uses(s, l), uses[s][l]);
            }
            due.is("twice(" + s + ")", x.twice(s), twice[s]);
        }
        // where the WALK has ended one is not twice
        due.is("twice at the HOUSE", due.of("corner a 0; seeker s 0 a;").twice(0), 0);
        due.is("twice of one LANE", due.of(LINE).twice(0), 0);
        // the LANE that the SIGN does not show is used by STRAYING alone
        LostBuyer y = due.of("corner a 0; corner h 0; lane a h 9; lane a h 5; house h; seeker s 0 a;");
        due.is("uses by the SIGN", y.uses(0, 0), 49152);
        due.is("uses by STRAYING", y.uses(0, 1), 16384);
        due.is("twice of two LANES", y.twice(0), 0);
        // back where one set out, behind the 8th STEP at last: all others are unlike
        LostBuyer ring = due.of("corner a 0; corner b 0; corner h 0; lane a b 1; house h; seeker s 0 a;");
        due.is("twice to and fro", ring.twice(0), 65536);
    }

    // ---- promises 28 to 37

    /** Promise 28: "the FOG 0 .. 9 by which MAY is most, of alike ones the least" */
    private static void clearest() {
        String[] laws = {"4", "0", "fog", "fog - 5", "9 - fog", "if fog < 3 then 0 else 4", "if 5 < fog then 4 else 0",
            "if 8 < fog then 4 else 0", "if fog < 1 then 4 else 0", "if 9 < fog then 4 else 1"};
        int[] which = {0, 0, 4, 9, 0, 3, 6, 9, 0, 0};
        int[] much = {65536, 0, 65536, 65536, 65536, 65536, 65536, 65536, 65536, 16384};
        for (int i = 0; i < laws.length; i++) {
            for (int mist : new int[] {0, 5, 9}) {
                LostBuyer x = due.of(LINE + "thickens = 7; mist " + mist + "; strays = " + laws[i] + ";");
                due.is("clearest of " + laws[i], x.clearest(0, 0), which[i]);
                due.is("clearest of " + laws[i] + ", how much", x.clearest(0, 1), much[i]);
                due.is("FOG as ahead", x.count(4), mist);
            }
        }
    }

    /** Promise 29: "behind how many DAYS (0 .. n), setting out then, MAY is most (SIGNS, SOLD as now), of alike ones the first" */
    private static void waits() {
        int[][] byDay = {{0, 0, 0}, {1, 1, 16384}, {2, 2, 32768}, {3, 3, 49152}, {4, 4, 65536}, {5, 4, 65536}, {30, 4, 65536}};
        LostBuyer x = due.of(LINE + "strays = day;");
        for (int[] w : byDay) {
            due.is("waits " + w[0], x.waits(0, w[0], 0), w[1]);
            due.is("waits " + w[0] + ", how much", x.waits(0, w[0], 1), w[2]);
        }
        x.days(3);
        due.is("waits on day 3", x.waits(0, 30, 0), 1);
        x.days(1);
        due.is("waits on day 4", x.waits(0, 30, 0), 0);
        LostBuyer last = due.of(LINE + "strays = if day < 30 then 1 else 4;");
        due.is("waits 29", last.waits(0, 29, 0), 0);
        due.is("waits 29, how much", last.waits(0, 29, 1), 16384);
        due.is("waits 30", last.waits(0, 30, 0), 30);
        due.is("waits 30, how much", last.waits(0, 30, 1), 65536);
        LostBuyer fog = due.of(LINE + "strays = fog; mist 1; thickens = fog + 2;");
        due.is("waits by FOG 0", fog.waits(0, 0, 1), 16384);
        due.is("waits by FOG 1", fog.waits(0, 1, 1), 49152);
        due.is("waits by FOG 2", fog.waits(0, 2, 0), 2);
        due.is("waits by FOG 30", fog.waits(0, 30, 0), 2);
        LostBuyer none = due.of(LINE + "strays = 0;");
        due.is("waits for nothing", none.waits(0, 30, 0), 0);
        due.is("waits for nothing, how much", none.waits(0, 30, 1), 0);
        // SOLD as now: it stays so, and nobody sets out meanwhile
        LostBuyer sold = due.of(LINE + "strays = 4 - sold * 3;");
        due.is("waits, not SOLD", sold.waits(0, 5, 1), 65536);
        sold.send(0);
        due.is("waits, SOLD", sold.waits(0, 5, 1), 16384);
    }

    /** Promise 30: "LANES without which there is no way by LANES from their CORNER to the HOUSE (none, if there is no way)" */
    private static void needed() {
        String line = "corner a 0; corner b 0; corner c 0; corner d 0; corner e 0; corner f 0; corner h 0; lane a b 1; lane b c 1; "
                + "lane c d 1; lane d e 1; lane e f 1; lane f h 1; house h; seeker s 0 a; seeker t 0 f; seeker u 0 h; ";
        LostBuyer x = due.of(line);
        due.is("all six", x.needed(0), 63);
        due.is("the last one", x.needed(1), 32);
        due.is("none at the HOUSE", x.needed(2), 0);
        LostBuyer y = due.of(line + "lane a b 9; lane b d 9; lane a f 9; lane h f 9;");
        due.is("none where all are twice", y.needed(0), 0);
        LostBuyer z = due.of(line + "lane a c 9; lane d f 9;");
        due.is("those in the middle and at the end", z.needed(0), 4 | 32);
        due.is("the 10th LANE", due.of("corner a 0; corner b 0; corner h 0; lane a b 1; lane a b 1; lane a b 1; lane a b 1; lane a b 1; "
                + "lane a b 1; lane a b 1; lane a b 1; lane a b 1; lane b h 1; house h; seeker s 0 a;").needed(0), 512);
        due.is("no way", due.of("corner a 0; corner b 0; corner h 0; lane a b 1; house h; seeker s 0 a;").needed(0), 0);
        // by LANES, whatever the SIGNS, however many STEPS
        x.turn(1, 1);
        due.is("whatever the SIGNS", x.needed(0), 63);
    }

    /** Promise 31: "makes MAY most, more than now, of alike ones the first CORNER, then the least number"; "ENEMY: likewise, least, less than now" */
    private static void turned() {
        // STRAYING always, by SIGN 9 of ten LANES one takes the first one, that of 9 miles
        String ten = "corner u 0; corner v 0; corner w 0; corner x 0; corner y 0; corner h 0; corner a 0; lane a h 9; lane a h 1; "
                + "lane a h 1; lane a h 1; lane a h 1; lane a h 1; lane a h 1; lane a h 1; lane a h 1; lane a h 1; house h; wrong 8; "
                + "strays = 4; seeker s 0 a; ";
        LostBuyer x = due.of(ten);
        due.is("may now", x.may(0), 0);
        due.is("TURN to 9 at CORNER 6", x.turned(0, true, 0), 69);
        due.is("TURN, how much", x.turned(0, true, 1), 65536);
        due.is("ENEMY of none: not less than now", x.turned(0, false, 0), -2);
        due.is("ENEMY of none, how much", x.turned(0, false, 1), -2);
        LostBuyer y = due.of(ten + "post a 9;");
        due.is("TURN: not more than now", y.turned(0, true, 0), -2);
        due.is("TURN, how much", y.turned(0, true, 1), -2);
        due.is("ENEMY to 0 at CORNER 6, the least number", y.turned(0, false, 0), 60);
        due.is("ENEMY, how much", y.turned(0, false, 1), 0);
        // of alike CORNERS the first: by a's SIGN 1 one STRAYS to h, by b's SIGN 3 one goes there the far way
        String a = "corner a 4; ";
        String b = "corner b 0; ";
        String rest = "corner h 0; lane a b 1; lane a b 1; lane b h 1; lane b h 9; lane a h 9; house h; wrong 7; strays = dark; "
                + "seeker s 0 a; ";
        due.is("TURN at a, the first", due.of(a + b + rest).turned(0, true, 0), 1);
        due.is("TURN at b, the first", due.of(b + a + rest).turned(0, true, 0), 3);
        due.is("TURN, how much", due.of(b + a + rest).turned(0, true, 1), 65536);
        LostBuyer z = due.of(b + a + rest + "post b 3;");
        due.is("ENEMY at b, the first, its least number", z.turned(0, false, 0), 0);
        due.is("ENEMY, how much", z.turned(0, false, 1), 0);
        // two numbers alike: LANES 1 and 2 are both far, of which 0 and 1 lead STRAYING
        String far = "corner a 0; corner h 0; lane a h 1; lane a h 9; lane a h 9; house h; strays = 4; wrong 8; seeker s 0 a; ";
        due.is("TURN, the least number", due.of(far + "post a 2;").turned(0, true, 0), 0);
        due.is("TURN, more than now alone", due.of(far).turned(0, true, 0), -2);
        due.is("ENEMY, the least number", due.of(far).turned(0, false, 0), 2);
        // one SIGN is turned, all others are as now: 5 miles more is what both would make, but none alone
        String both = "corner a 4; corner b 0; corner h 0; lane a b 5; lane a b 1; lane b h 1; lane b h 5; post b 2; house h; "
                + "wrong 5; strays = dark; seeker s 0 a; ";
        due.is("TURN of two at once", due.of(both).turned(0, true, 0), -2);
        due.is("TURN of the other", due.of(both + "post a 1;").turned(0, true, 0), 13);
        due.is("TURN of the one", due.of(both + "post b 3;").turned(0, true, 0), 1);
        // FOG, day, SOLD are as now
        String now = far + "strays = fog + day + sold; post a 2; mist 2; ";
        LostBuyer f = due.of(now);
        due.is("TURN by FOG 2", f.turned(0, true, 1), 32768);
        due.is("MAY by no FOG, as the SIGN is", f.clearest(0, 1), 0);
        f.days(1);
        due.is("TURN by day 1", f.turned(0, true, 1), 49152);
        f.turn(0, 0);
        f.fog(true);
        f.send(0);
        f.fog(false);
        f.fog(false);
        f.fog(false);
        f.turn(0, 2);
        due.is("SOLD", f.count(5), 0);
        due.is("TURN by day 1, SOLD", f.turned(0, true, 1), 32768);
        due.is("without LANES", due.of("corner a 0; seeker s 0 a; wrong 0;").turned(0, true, 0), -2);
        due.is("without LANES", due.of("corner a 0; seeker s 0 a; wrong 0;").turned(0, false, 1), -2);
    }

    /** Promise 32: "how few SIGNS must be turned so that one who never STRAYS COMES (-2: by none)" */
    private static void lead() {
        String line = "corner a 0; corner b 0; corner c 0; corner d 0; corner e 0; corner f 0; corner h 0; lane a b 1; lane b c 1; "
                + "lane c d 1; lane d e 1; lane e f 1; lane f h 1; house h; seeker s 0 a; seeker t 0 f; seeker u 0 h; ";
        String posts = "post b 1; post c 1; post d 1; post e 1; post f 1; ";
        LostBuyer x = due.of(line);
        due.is("all but the first", x.lead(0), 5);
        due.is("the last one alone", x.lead(1), 1);
        due.is("at the HOUSE", x.lead(2), 0);
        due.is("as told already", due.of(line + posts).lead(0), 0);
        for (int c = 1; c <= 5; c++) {
            due.is("turn", x.turn(c, 9), true);
            due.is("one less", x.lead(0), 5 - c);
        }
        due.is("none", x.lead(0), 0);
        due.is("turn away", x.turn(3, 8), true);
        due.is("one", x.lead(0), 1);
        due.is("behind it none", x.lead(1), 0);
        // LANES lead both ways
        LostBuyer y = due.of("corner h 0; corner f 0; corner e 0; corner d 0; lane h f 1; lane f e 1; lane e d 1; post f 1; post e 1; "
                + "house h; seeker s 0 d; seeker t 0 e; ");
        due.is("told the other way", y.lead(0), 2);
        due.is("told the other way", y.lead(1), 2);
        y.turn(2, 0);
        due.is("told the other way, one turned", y.lead(0), 1);
        y.turn(1, 0);
        due.is("told the other way, both turned", y.lead(0), 0);
        // the way by which fewest are turned, not that of fewest miles
        due.is("far, but as told", due.of("corner a 0; corner b 0; corner h 0; lane a b 9; lane b h 9; lane a h 1; post b 1; house h; "
                + "seeker s 0 a;").lead(0), 0);
        due.is("no way", due.of("corner a 0; corner b 0; corner h 0; lane a b 1; house h; seeker s 0 a;").lead(0), -2);
        due.is("no LANES", due.of("corner a 0; corner h 0; house h; seeker s 0 a;").lead(0), -2);
    }

    /** Promise 33: "the SEEKER HOME with most MAY, of alike ones the first"; "-2: nobody is HOME" */
    private static void who() {
        String five = "corner a 0; corner h 0; lane a h 1; house h; wrong 0; seeker p 1 a; seeker q 3 a; seeker r 2 a; seeker s 3 a; "
                + "seeker t 0 h; ";
        LostBuyer x = due.of(five + "strays = sense;");
        due.is("most, the first of alike ones", x.who(), 1);
        due.is("alike ones", due.of(five).who(), 0);
        due.is("none of whom MAY", due.of(five + "strays = 0;").who(), 0);
        LostBuyer y = due.of(five + "strays = 0;");
        for (int s = 0; s < 4; s++) {
            y.send(s);
            due.is("of those HOME", y.who(), s + 1);
        }
        y.send(4);
        due.is("nobody is HOME", y.who(), -2);
        y.call(3);
        due.is("called home", y.who(), 3);
        LostBuyer z = due.of(five + "strays = 4;");
        z.send(0);
        due.is("SOLD: of those HOME", z.who(), 1);
        due.is("no SEEKERS", due.of("corner a 0;").who(), -2);
    }

    /** Promise 34: "-2: there is no way" */
    private static void shortest() {
        LostBuyer x = due.of("corner a 0; corner b 0; corner c 0; corner d 0; corner e 0; corner f 0; corner h 0; lane a b 9; lane b c 9; "
                + "lane c d 9; lane d e 9; lane e h 9; house h;");
        int[] far = {45, 36, 27, 18, 9, -2, 0};
        for (int c = 0; c < 7; c++) {
            due.is("shortest(" + c + ")", x.shortest(c), far[c]);
        }
    }

    /** Promise 35: "3 at which they STRAY (bits), 4: 1 they MAY BUY, else 0" */
    private static void walk() {
        LostBuyer x = due.of("corner a 0; corner b 0; corner h 0; lane a b 9; house h; strays = 4; seeker s 0 a; seeker t 0 h; ");
        int[] always = {0, 72, 8, 255, 0};
        int[] there = {2, 0, 0, 0, 0};
        for (int what = 0; what < 5; what++) {
            due.is("walk(0, " + what + ")", x.walk(0, what), always[what]);
            due.is("walk(1, " + what + ")", x.walk(1, what), there[what]);
        }
        LostBuyer y = due.of(LINE + "strays = 4;");
        due.is("MAY BUY", y.walk(0, 4), 1);
        y.send(0);
        due.is("MAY BUY, SOLD or not", y.walk(0, 4), 1);
        // a WRONG of 0 and a STEP STRAYED; of 1, none
        due.is("not far enough", due.of(LINE + "strays = 4; wrong 1;").walk(0, 4), 0);
        due.is("not STRAYED", due.of(LINE + "strays = 0;").walk(0, 4), 0);
    }

    /** Promise 36: "IN n DAYS (0 .. 60): the FOG" */
    private static void fogIn() {
        LostBuyer x = due.of("mist 4; thickens = if day < 59 then 4 else day - 53;");
        due.is("IN 0", x.fogIn(0), 4);
        due.is("IN 59", x.fogIn(59), 4);
        due.is("IN 60", x.fogIn(60), 6);
        x.days(1);
        due.is("IN 58", x.fogIn(58), 4);
        due.is("IN 59", x.fogIn(59), 6);
        due.is("IN 60", x.fogIn(60), 7);
        due.is("a new object's", new LostBuyer().fogIn(60), 0);
    }

    /** Promise 37: "by s SEEDS (1 .. 20) from the text's SEED on" */
    private static void year() {
        // by a script apart, LOT 4 of STEP 0 of the SEEDS from 9990 on
        int[] lots = {0, 2, 1, 3, 2, 1, 2, 3, 2, 1, 3, 2, 0, 1, 0, 0, 3, 2, 3, 0};
        for (int strays = 0; strays <= 4; strays++) {
            LostBuyer x = due.of(LINE + "seed 9990; strays = " + strays + ";");
            int many = 0;
            for (int s = 1; s <= 20; s++) {
                many += lots[s - 1] < strays ? 1 : 0;
                due.is("year(0, " + s + ") of STRAYS " + strays, x.year(0, s), many);
            }
        }
        LostBuyer x = due.of(LINE + "strays = 4;");
        due.is("year of 1", x.year(0, 1), 1);
        due.is("year of 20", x.year(0, 20), 20);
        x.send(0);
        due.is("year, SOLD or not", x.year(0, 20), 20);
    }

    // ---- promises 38 to 41

    /** Promise 38: "its number; NONE, and nothing happens: 20 are there, no such ones" */
    private static void tell() {
        LostBuyer x = due.of(SWING);
        for (int n = 0; n < 20; n++) {
            due.is("number", x.tell(n % 3, n % 9, n % 4, n % 2 == 0), n);
            due.is("tell of no such i", x.tell(0, 9, 0, true), -1);
            due.is("count(10)", x.count(10), n + 1);
        }
        due.is("a 21st", x.tell(0, 0, 0, true), -1);
        due.is("count(10)", x.count(10), 20);
        due.is("ways(20, ..)", x.ways(20, 0, 0) >= 0, true);
        due.is("ways(21, ..)", x.ways(21, 0, 0), -1);
        due.is("look(20, ..)", x.look(20, 0) != -1, true);
        due.is("look(21, ..)", x.look(21, 0), -1);
        Twins.Calls twenty = y -> {
            put(y, SWING);
            for (int n = 0; n < 20; n++) {
                y.tell(0, 8, 2, true);
            }
        };
        Twins.unchanged(due, "a 21st TOLD", twenty, y -> y.tell(0, 1, 0, true));
        Twins.unchanged(due, "a 21st TOLD, of no such", twenty, y -> y.tell(9, 9, 9, false));
        LostBuyer z = Twins.made(twenty);
        due.is("all 20 hold", z.ways(20, 0, 0), 4);
        due.is("forget()", z.forget(), 20);
        due.is("the first anew", z.tell(0, 8, 2, false), 0);
        due.is("it alone holds", z.ways(1, 0, 0), 1);
    }

    /** Promise 39: "All that was TOLD is forgotten: how many there were." */
    private static void forget() {
        LostBuyer x = due.of(SWING);
        due.is("forget() of none", x.forget(), 0);
        x.tell(0, 8, 2, true);
        due.is("forget() of one", x.forget(), 1);
        due.is("forget() of none", x.forget(), 0);
        due.is("count(10)", x.count(10), 0);
        due.is("ways(1, ..)", x.ways(1, 0, 0), -1);
        due.is("look(1, ..)", x.look(1, 0), -1);
        due.is("ways(0, ..)", x.ways(0, 0, 0), 5);
        Twins.unchanged(due, "told and forgotten", y -> put(y, SWING), y -> {
            y.tell(0, 1, 1, true);
            y.forget();
        });
    }

    private static void known(String told, LostBuyer x, int k, int many, int cases, int most, int look) {
        due.is("ways, how many, " + told, x.ways(k, 0, 0), many);
        due.is("ways, CASES, " + told, x.ways(k, 0, 1), cases);
        due.is("ways, most, " + told, x.ways(k, 0, 2), most);
        due.is("look, " + told, x.look(k, 0), look);
    }

    /** Promises 40, 41: "KNOWN of a SEEKER by k: those of the first k that are of that one" */
    private static void waysAndLook() {
        LostBuyer x = due.of(SWING);
        known("nothing told", x, 0, 5, 65536, 0, 4);
        x.tell(0, 8, 2, true);
        x.tell(1, 0, 0, true);
        x.tell(0, 4, 2, false);
        x.tell(0, 6, 2, true);
        x.tell(2, 8, 2, false);
        x.tell(0, 0, 1, true);
        known("came", x, 1, 4, 44800, 2, 4);
        known("came, and one told of another", x, 2, 4, 44800, 2, 4);
        known("not by the 4th", x, 3, 2, 16128, 32, 6);
        known("by the 6th", x, 4, 1, 9216, 32, 1);
        known("and one told of another", x, 5, 1, 9216, 32, 1);
        known("set out elsewhere", x, 6, 0, 0, -2, -2);
        due.is("of t, set out elsewhere", x.ways(2, 1, 0), 0);
        due.is("of t, by the first alone", x.ways(1, 1, 0), 5);
        due.is("of u, never came", x.ways(5, 2, 0), 1);
        due.is("of u, never came, by 4", x.ways(4, 2, 0), 4);
        due.is("of u, CASES", x.ways(5, 2, 1), 27648);
        // setting out now: STRAYED by all quarters at b there is one WAY
        LostBuyer y = due.of(SWING + "strays = dark * (1 + fog * 3);");
        y.tell(0, 2, 2, true);
        due.is("ways by 1 quarter", y.ways(1, 0, 1), 16384);
        y.fog(true);
        due.is("ways by 4 quarters", y.ways(1, 0, 1), 65536);
        due.is("ways by 4 quarters, how many", y.ways(1, 0, 0), 1);
        due.is("ways by 4 quarters, STRAYED", y.ways(1, 0, 2), 2);
    }

    /** Part IV: "was behind i STEPS (0 .. 8; behind the last one: where the WALK ended) at a CORNER, or was not" */
    private static void behind() {
        // who STRAYS at STEP 1 is at a, b, and then at h for good; who never does is at a and b by turns
        int[][] at = {{0, 1, 2, 2, 2, 2, 2, 2, 2}, {0, 1, 0, 1, 2, 2, 2, 2, 2}, {0, 1, 0, 1, 0, 1, 2, 2, 2},
            {0, 1, 0, 1, 0, 1, 0, 1, 2}, {0, 1, 0, 1, 0, 1, 0, 1, 0}};
        for (int i = 0; i <= 8; i++) {
            for (int c = 0; c < 4; c++) {
                int there = 0;
                for (int[] way : at) {
                    there += way[i] == c ? 1 : 0;
                }
                LostBuyer x = due.of(SWING);
                x.tell(0, i, c, true);
                due.is("WAYS, at " + c + " behind " + i, x.ways(1, 0, 0), there);
                LostBuyer y = due.of(SWING);
                y.tell(0, i, c, false);
                due.is("WAYS, not at " + c + " behind " + i, y.ways(1, 0, 0), 5 - there);
            }
        }
    }

    /** Of seven CORNERS, too: from e by g to a or b, and back to g, by halves. */
    private static void sevenCorners() {
        String seven = "corner a 0; corner b 0; corner c 0; corner d 0; corner e 0; corner f 0; corner g 2; lane g a 1; lane g b 1; "
                + "lane g e 1; house c; strays = dark; seeker s 0 e; ";
        int[][] ways = {{0, 0, 0, 0, 16, 0, 0}, {0, 0, 0, 0, 0, 0, 16}, {8, 8, 0, 0, 0, 0, 0}};
        for (int i = 0; i <= 8; i++) {
            for (int c = 0; c < 7; c++) {
                LostBuyer x = due.of(seven);
                x.tell(0, i, c, true);
                int there = ways[i == 0 ? 0 : 2 - i % 2][c];
                due.is("WAYS at " + c + " behind " + i, x.ways(1, 0, 0), there);
                due.is("CASES at " + c + " behind " + i, x.ways(1, 0, 1), there * 4096);
                LostBuyer y = due.of(seven);
                y.tell(0, i, c, false);
                due.is("WAYS not at " + c + " behind " + i, y.ways(1, 0, 0), 16 - there);
            }
        }
        LostBuyer z = due.of(seven);
        due.is("look by seven", z.look(0, 0), 2);
        z.tell(0, 2, 0, true);
        due.is("look by seven, one told", z.look(1, 0), 4);
        z.tell(0, 6, 1, false);
        z.tell(0, 4, 1, true);
        due.is("look by seven, three told", z.look(3, 0), 8);
        z.tell(0, 8, 0, true);
        due.is("look by seven, all told", z.look(4, 0), 1);
        due.is("STRAYED at STEP 3 alone", z.ways(4, 0, 2), 8);
    }

    /** Promise 40: "that with most CASES, of alike ones the least bits"; promise 41: "fewest WAYS are left, at worst; of alike ones the first" */
    private static void alikeOnes() {
        String fork = "corner b 4; corner c 0; corner h 0; lane a b 1; lane a c 1; lane b h 1; lane c h 1; post c 1; house h; "
                + "seeker s 0 a; strays = dark; ";
        // by b one STRAYS at STEP 1 (bits 2), by c one STRAYED at STEP 0 (bits 1)
        int[] most = {2, 2, 1, 1, 1};
        for (int quarters = 0; quarters <= 4; quarters++) {
            LostBuyer x = due.of("corner a " + quarters + "; " + fork);
            due.is("most by " + quarters + " quarters", x.ways(0, 0, 2), most[quarters]);
            due.is("ways by " + quarters + " quarters", x.ways(0, 0, 0), quarters % 4 == 0 ? 1 : 2);
            due.is("look by " + quarters + " quarters", x.look(0, 0), 1);
        }
        // all alike, no i tells more than another
        LostBuyer y = due.of("corner a 0; corner b 0; corner h 0; lane a b 3; house h; strays = 2; seeker s 0 a;");
        due.is("most of halves: the least bits", y.ways(0, 0, 2), 0);
        due.is("look of halves: the first", y.look(0, 0), 1);
        due.is("look at the HOUSE", due.of("corner a 0; seeker s 0 a;").look(0, 0), 1);
        // i 8 alone parts the two that are left: STRAYED at STEP 7, or never
        LostBuyer z = due.of(SWING);
        z.tell(0, 6, 2, false);
        due.is("ways left", z.ways(1, 0, 0), 2);
        due.is("most left", z.ways(1, 0, 2), 0);
        due.is("look at 8", z.look(1, 0), 8);
    }

    // ---- promises 42 to 44

    /** Promise 42: "All that goes on (not what is TOLD, nor the tape) is held in a SLOT (0 .. 2)" */
    private static void hold() {
        LostBuyer x = due.of(TRIANGLE + "strays = 4; asks = 55; mist 2;");
        x.turn(0, 2);
        x.send(2);
        x.fog(true);
        x.days(7);
        x.send(0);
        String then = state(x);
        due.is("hold(0)", x.hold(0), true);
        due.is("hold(0) is no thing done", x.count(9), 5);
        x.tell(0, 1, 1, true);
        Due.type(x, "mist 4;");
        x.call(2);
        x.turn(0, 0);
        x.fog(false);
        x.days(1);
        due.is("restore(0)", x.restore(0), true);
        due.is("all goes on from there", state(x).equals(then), true);
        due.is("bought", x.count(5), 0);
        due.is("for how much", x.count(6), 55);
        due.is("turned to 2", x.turn(0, 2), false);
        due.is("OUT", x.count(13), 4);
        due.is("TOLD since", x.count(10), 1);
        due.is("the tape since", x.count(8), 7);
        due.is("nothing can be undone", x.undo(), false);
        due.is("things that can be", x.count(9), 0);
        // each SLOT by itself; held anew, the latest
        LostBuyer y = new LostBuyer();
        for (int slot = 0; slot < 3; slot++) {
            due.is("count(11)", y.count(11), slot);
            y.days(1);
            due.is("hold(" + slot + ")", y.hold(slot), true);
        }
        due.is("count(11)", y.count(11), 3);
        for (int slot = 0; slot < 3; slot++) {
            due.is("restore(" + slot + ")", y.restore(slot), true);
            due.is("day of SLOT " + slot, y.count(3), slot + 1);
        }
        y.days(50);
        due.is("hold(1) anew", y.hold(1), true);
        due.is("count(11)", y.count(11), 3);
        int[] days = {1, 53, 3};
        for (int slot = 0; slot < 3; slot++) {
            y.restore(slot);
            due.is("day of SLOT " + slot, y.count(3), days[slot]);
        }
        Twins.unchanged(due, "held in a SLOT as ahead", z -> {
            put(z, TRIANGLE);
            z.days(2);
            z.hold(2);
        }, z -> z.hold(2));
    }

    /** Promise 43: "(that stays there; nothing can be undone then): true; false, and nothing happens: no such one, nothing is held" */
    private static void restore() {
        for (int slot = 0; slot < 3; slot++) {
            refused("restore(n) of a SLOT that holds nothing", x -> put(x, TRIANGLE + "mist 1;"), (x, n) -> yes(x.restore(n)), slot, 0);
            refused("restore(n) of nothing in a new object", x -> x.days(3), (x, n) -> yes(x.restore(n)), slot, 0);
        }
        refused("restore(0) beside one held", CallEdgeTests::sold, (x, n) -> yes(x.restore(n)), 0, 0);
        refused("restore(1) beside one held", CallEdgeTests::sold, (x, n) -> yes(x.restore(n)), 1, 0);
        LostBuyer x = Twins.made(CallEdgeTests::sold);
        for (int i = 0; i < 3; i++) {
            due.is("restore(2)", x.restore(2), true);
            due.is("not SOLD", x.count(5), -2);
            due.is("OUT", x.count(13), 4);
            due.is("things that can be undone", x.count(9), 0);
            due.is("undo()", x.undo(), false);
            due.is("SLOTS", x.count(11), 1);
            due.is("send", x.send(0), 2);
            due.is("SOLD", x.count(5), 0);
        }
        due.is("undo() of what was done since", x.undo(), true);
        due.is("not SOLD", x.count(5), -2);
        due.is("undo() no further", x.undo(), false);
    }

    /** Promise 44: each what, at its least and at its most. */
    private static void count() {
        LostBuyer x = Twins.made(CallEdgeTests::fullHome);
        int[] full = {7, 10, 5, 2, 6, -2, 0, 31, 20, 4, 3, 3, 6, 0, 46, 0, 28};
        for (int what = 0; what < full.length; what++) {
            due.is("count(" + what + ") of all", x.count(what), full[what]);
        }
        LostBuyer out = Twins.made(CallEdgeTests::fullOut);
        due.is("HOME, none", out.count(7), 0);
        due.is("OUT, all", out.count(13), 31);
        LostBuyer one = Twins.made(CallEdgeTests::one);
        int[] little = {1, 0, 1, 0, 2, -2, 0, 1, 0, 1, 1, 1, 0, 0, 0, 1, 4};
        for (int what = 0; what < little.length; what++) {
            due.is("count(" + what + ") of one", one.count(what), little[what]);
        }
        LostBuyer none = due.of("corner a 9; corner b 9; corner c 9; corner d 9; corner e 9; corner f 9; corner g 9; house g;");
        due.is("CORNERS without LANES, all", none.count(15), 127);
        due.is("DARK of all", none.count(16), 63);
        due.is("the HOUSE's CORNER", none.count(12), 6);
        LostBuyer lanes = due.of("corner a 0; corner b 0; corner c 0; " + "lane a b 9; ".repeat(10));
        due.is("miles of all LANES", lanes.count(14), 90);
        due.is("CORNERS without LANES, the last one", lanes.count(15), 4);
        LostBuyer sold = due.of(LINE + "strays = 4; asks = 999; ");
        sold.send(0);
        due.is("who bought", sold.count(5), 0);
        due.is("for how much", sold.count(6), 999);
        due.is("HOME", sold.count(7), 0);
        due.is("OUT", sold.count(13), 0);
        LostBuyer last = due.of("corner a 0; corner h 0; lane a h 1; house h; wrong 0; strays = which; seeker p 0 a; seeker q 0 h; "
                + "seeker r 0 h; seeker s 0 h; seeker t 0 a; ");
        last.send(4);
        due.is("who bought, the last SEEKER", last.count(5), 4);
        due.is("HOME, all others", last.count(7), 15);
    }

    public static void main(String[] args) {
        asMany();
        whats();
        nothingHappens();
        corner();
        seeker();
        strays();
        tells();
        send();
        turn();
        fog();
        call();
        days();
        undo();
        notUndone();
        ofCases();
        passes();
        worth();
        afraid();
        span();
        usesAndTwice();
        clearest();
        waits();
        needed();
        turned();
        lead();
        who();
        shortest();
        walk();
        fogIn();
        year();
        tell();
        forget();
        waysAndLook();
        behind();
        sevenCorners();
        alikeOnes();
        hold();
        restore();
        count();
        due.end();
    }
}
