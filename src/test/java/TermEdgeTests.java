/**
 * The sentences of 'Terms', parts II and III, that name a boundary: SIGNS, LAWS, LOTS, WALKS, DAYS.
 * Each has a method of its own, ahead of which the sentence's words stand.
 *
 * In SWING, where one STRAYS at b alone, by one quarter, one goes from a to b and back till one
 * STRAYS at b, which leads to h. From a that is at STEP 1, 3, 5 or 7: 16,384, 12,288, 9,216 and
 * 6,912 CASES; in 20,736 one never COMES. From b it is at STEP 0, 2, 4 or 6, in as many; from z,
 * a LANE further off, at STEP 2, 4 or 6: a 9th STEP is not walked.
 */
public final class TermEdgeTests {
    private static final Due due = new Due();

    private static final String SWING = "corner a 0; corner b 1; corner h 0; corner z 0; lane a b 1; lane b h 1; lane z a 1; "
            + "house h; strays = dark; seeker s 0 a; seeker t 0 b; seeker u 0 z; ";
    private static final String LINE = "corner a 0; corner h 0; lane a h 1; house h; wrong 0; seeker s 0 a; ";
    private static final String TO_AND_FRO = "corner a 0; corner b 0; corner h 0; lane a b 3; house h; "
            + "seeker p 0 a; seeker q 0 a; seeker r 0 a; seeker s 0 a; seeker t 0 a; ";

    // ---- SIGNS

    private static boolean atA(int lane, int many) {
        return lane * 7 % 10 < many;
    }

    /** Ten LANES, of which so many, not one beside the other, are a's; all others are b's and c's. */
    private static String lanes(int many) {
        StringBuilder b = new StringBuilder("corner a 0; corner h 0; corner c 0; house h; seeker s 0 a; ");
        for (int lane = 0; lane < 10; lane++) {
            b.append(atA(lane, many) ? lane % 2 == 0 ? "lane a h 1; " : "lane h a 1; " : "lane c h 1; ");
        }
        return b.toString();
    }

    private static int[] lanesOfA(int many) {
        int[] of = new int[many];
        int next = 0;
        for (int lane = 0; lane < 10; lane++) {
            if (atA(lane, many)) {
                of[next++] = lane;
            }
        }
        return of;
    }

    /** "shows the one of its LANES, in order of their numbers, whose place among them is the rest by how many they are" */
    private static void shown() {
        for (int many = 1; many <= 10; many++) {
            int[] of = lanesOfA(many);
            due.is("SIGN of nothing told, of " + many, due.of(lanes(many)).corner(0, 2), of[0]);
            LostBuyer x = due.of(lanes(many));
            for (int n = 0; n <= 9; n++) {
                due.is("SIGN of POST " + n + " of " + many, due.of(lanes(many) + "post a " + n + ";").corner(0, 2), of[n % many]);
                x.turn(0, n);
                due.is("SIGN turned to " + n + " of " + many, x.corner(0, 2), of[n % many]);
            }
        }
    }

    /** "they take the LANE behind the one that the SIGN shows, of that CORNER's (behind the last one the first); else that one" */
    private static void takenLane() {
        for (int many = 1; many <= 10; many++) {
            int[] of = lanesOfA(many);
            for (int n = 0; n <= 9; n++) {
                LostBuyer strays = due.of(lanes(many) + "strays = 4; post a " + n + ";");
                LostBuyer not = due.of(lanes(many) + "strays = 0; post a " + n + ";");
                for (int lane = 0; lane < 10; lane++) {
                    due.is("LANE " + lane + " by STRAYING, SIGN " + n + " of " + many, strays.uses(0, lane),
                            lane == of[(n + 1) % many] ? 65536 : 0);
                    due.is("LANE " + lane + " by the SIGN " + n + " of " + many, not.uses(0, lane),
                            lane == of[n % many] ? 65536 : 0);
                }
            }
        }
    }

    // ---- LAWS

    private static int toldBy(String law, String words) {
        LostBuyer x = due.of(LINE + law + " = " + words + ";");
        switch (law) {
            case "strays":
                return x.strays(0, 0);
            case "asks":
                return x.tells(0, 7, 0);
            case "fears":
                return x.tells(0, 7, 1);
            default:
                return x.fogIn(1);
        }
    }

    private static void law(String words, int want) {
        due.is("asks = " + words, toldBy("asks", words), want);
        due.is("fears = " + words, toldBy("fears", words), want);
        due.is("strays = " + words, toldBy("strays", words), Math.min(want, 4));
        due.is("thickens = " + words, toldBy("thickens", words), Math.min(want, 9));
    }

    /** "held to 0 .. 4", "held to 0 .. 999", "held to 0 .. 9" */
    private static void held() {
        String[] laws = {"strays", "asks", "fears", "thickens"};
        int[] most = {4, 999, 999, 9};
        for (int i = 0; i < 4; i++) {
            due.is(laws[i] + " least", toldBy(laws[i], "0"), 0);
            due.is(laws[i] + " 1", toldBy(laws[i], "1"), 1);
            due.is(laws[i] + " below the least", toldBy(laws[i], "0 - 1"), 0);
            due.is(laws[i] + " far below", toldBy(laws[i], "0 - 9999"), 0);
            due.is(laws[i] + " the least int", toldBy(laws[i], "8192 * 8192 * 32"), 0);
            due.is(laws[i] + " below the most", toldBy(laws[i], "" + (most[i] - 1)), most[i] - 1);
            due.is(laws[i] + " most", toldBy(laws[i], "" + most[i]), most[i]);
            due.is(laws[i] + " above the most", toldBy(laws[i], "" + (most[i] + 1)), most[i]);
            due.is(laws[i] + " far above", toldBy(laws[i], "9999"), most[i]);
            due.is(laws[i] + " the most int", toldBy(laws[i], "8192 * 8192 * 32 - 1"), most[i]);
        }
    }

    private static final String[] VARS = {"sense", "dark", "fog", "long", "day", "lanes", "which", "sold", "miles"};
    private static final String SCENE = "corner a 8; corner b 7; corner h 0; lane a b 6; lane a b 5; lane a h 4; house h; "
            + "seeker p 1 b; seeker q 2 b; seeker r 3 a; ";

    private static void var(String law, int var, int value) {
        for (int v = Math.max(0, value - 1); v <= value + 1; v++) {
            LostBuyer x = due.of(SCENE + "strays = miles; asks = dark; fears = long; thickens = lanes; " + law + " = if "
                    + VARS[var] + " < " + v + " then 0 else if " + v + " < " + VARS[var] + " then 0 else 1;");
            x.days(4);
            for (int i = 0; i < 9 && x.count(4) < 5; i++) {
                x.fog(true);
            }
            // what another LAW was told of is not told for this one
            x.strays(1, 1);
            x.tells(1, 50, 0);
            x.tells(1, 50, 1);
            x.strays(1, 0);
            if (law.equals("strays")) {
                x.tells(1, 50, 0);
            }
            int told = law.equals("strays") ? x.strays(2, 0) : law.equals("asks") ? x.tells(2, 33, 0)
                    : law.equals("fears") ? x.tells(2, 33, 1) : x.fogIn(1);
            due.is(VARS[var] + " is " + v + " in " + law, told, v == value ? 1 : 0);
        }
    }

    /** "a VAR not told for a LAW is 0 in it; fog, day, sold (1 it is SOLD, 0 not) for all" */
    private static void vars() {
        int[] strays = {3, 8, 5, 6, 4, 3, 2, 0, 0};
        int[] miles = {3, 0, 5, 0, 4, 0, 2, 0, 33};
        int[] day = {0, 0, 5, 0, 4, 0, 0, 0, 0};
        for (int v = 0; v < VARS.length; v++) {
            var("strays", v, strays[v]);
            var("asks", v, miles[v]);
            var("fears", v, miles[v]);
            var("thickens", v, day[v]);
        }
        LostBuyer x = due.of(LINE + "strays = 4 - sold; asks = 5 + sold; fears = 6 + sold; thickens = 7 + sold;");
        due.is("strays, not SOLD", x.strays(0, 0), 4);
        due.is("asks, not SOLD", x.tells(0, 0, 0), 5);
        due.is("fears, not SOLD", x.tells(0, 0, 1), 6);
        due.is("thickens, not SOLD", x.fogIn(1), 7);
        x.send(0);
        due.is("who bought", x.count(5), 0);
        due.is("strays, SOLD", x.strays(0, 0), 3);
        due.is("asks, SOLD", x.tells(0, 0, 0), 6);
        due.is("fears, SOLD", x.tells(0, 0, 1), 7);
        due.is("thickens, SOLD", x.fogIn(1), 8);
        // it was asked ahead of its being SOLD
        due.is("for how much", x.count(6), 5);
        // long is of the LANE that the SIGN shows, not of the one that is taken
        x = due.of(SCENE + "strays = long - 3;");
        due.is("long of LANE 0", x.strays(2, 0), 3);
        x.turn(0, 1);
        due.is("long of LANE 1", x.strays(2, 0), 2);
        x.turn(0, 2);
        due.is("long of LANE 2", x.strays(2, 0), 1);
        x.turn(0, 3);
        due.is("long of LANE 0 again", x.strays(2, 0), 3);
    }

    /** "the E of the first if that holds (one less than the other), else the last one" */
    private static void ifs() {
        law("if 1 < 2 then 3 else 4", 3);
        law("if 2 < 2 then 3 else 4", 4);
        law("if 3 < 2 then 3 else 4", 4);
        law("if 0 - 1 < 0 then 3 else 4", 3);
        law("if 0 < 0 - 1 then 3 else 4", 4);
        law("if 0 - 2 < 0 - 1 then 3 else 4", 3);
        // the least int is less than the most
        law("if 8192 * 8192 * 32 < 8192 * 8192 * 32 - 1 then 3 else 4", 3);
        law("if 8192 * 8192 * 32 - 1 < 8192 * 8192 * 32 then 3 else 4", 4);
        String no = "if 1 < 1 then 9 else ";
        String yes = "if 0 < 1 then 2 else ";
        for (int many = 0; many <= 4; many++) {
            law(no.repeat(many) + "3", 3);
            if (many < 4) {
                law(no.repeat(many) + yes + no.repeat(3 - many) + "4", 2);
                law(no.repeat(many) + yes + "if 0 < 1 then 1 else ".repeat(3 - many) + "4", 2);
            }
        }
    }

    /** "a LAW in which something that is looked at is divided by 0 is 0" */
    private static void byZero() {
        law("1 / 0", 0);
        law("0 / 0", 0);
        law("3 + 1 / 0", 0);
        law("1 / 0 + 3", 0);
        law("3 + 0 * (1 / 0)", 0);
        law("3 + 1 / (2 - 2)", 0);
        law("3 + 1 / (1 / 2)", 0);
        law("3 + (2 - 1 / dark) * 0", 0);
        law("3 / 1", 3);
        law("1 / 1 + 2", 3);
        law("(0 - 3) / (0 - 1)", 3);
        law("3 + 0 / 1", 3);
        law("3 + 0 / (0 - 1)", 3);
        String zero = "1 / 0";
        law("if " + zero + " < 1 then 3 else 4", 0);
        law("if 1 < " + zero + " then 3 else 4", 0);
        law("if 1 < 2 then " + zero + " else 4", 0);
        law("if 2 < 2 then 3 else " + zero, 0);
        law("if 2 < 2 then 3 else if " + zero + " < 1 then 3 else 4", 0);
        // not looked at
        law("if 2 < 2 then " + zero + " else 4", 4);
        law("if 1 < 2 then 3 else " + zero, 3);
        law("if 1 < 2 then 3 else if " + zero + " < 1 then 4 else 2", 3);
        law("if 1 < 2 then 3 else if 1 < " + zero + " then 4 else 2", 3);
        law("if 2 < 2 then " + zero + " else if 1 < 2 then 3 else " + zero, 3);
    }

    /** "ints of 32 bits that wrap, / rounded towards 0" */
    private static void wraps() {
        law("3 + 7 / 2", 6);
        law("4 + (0 - 7) / 2", 1);
        law("4 + 7 / (0 - 2)", 1);
        law("(0 - 7) / (0 - 2)", 3);
        law("1 + (0 - 1) / 2", 1);
        law("1 + 1 / (0 - 2)", 1);
        String least = "8192 * 8192 * 32";
        law("if " + least + " < 0 then 1 else 2", 1);
        law("if " + least + " - 1 < 0 then 1 else 2", 2);
        law("if " + least + " - 1 + 1 < 0 then 1 else 2", 1);
        law("if (" + least + " - 1) * 2 < 0 - 1 then 1 else 2", 1);
        law("if " + least + " * 2 < 0 then 1 else 2", 2);
        law("3 + " + least + " * 2", 3);
        law("if 0 - " + least + " < 0 then 1 else 2", 1);
        // the one quotient that wraps
        law("if " + least + " / (0 - 1) < 0 then 1 else 2", 1);
        law("if (" + least + " - 1) / (0 - 1) < 0 then 1 else 2", 1);
        law("if (" + least + " + 1) / (0 - 1) < 0 then 1 else 2", 2);
        // 9999 to the 3rd is -1,027,349,969
        law("(9999 * 9999 * 9999 + 9999 * 9999 * 10) / (0 - 1000) / 1000", 27);
        law("20 - 3 - 14", 3);
        law("20 / 3 / 2", 3);
        law("20 / 3 * 2 - 9", 3);
        law("2 + 3 * 4 - 12", 2);
        law("(2 + 3) * 4 - 17", 3);
    }

    /** "UNIT: .. '(' E ')'", six of them within one another, with two numbers waiting at each. */
    private static void deep() {
        // 127 and 128 times a number
        String deep = "1 + 2 * (1 + 2 * (1 + 2 * (1 + 2 * (1 + 2 * (1 + 2 * (1 + 2 * #))))))";
        String one = deep.replace("#", "1");
        String two = deep.replace("#", "2");
        law(one + " - 252", 3);
        law("if " + one + " < " + two + " then 3 else 4", 3);
        law("if " + two + " < " + one + " then 3 else 4", 4);
        law("if " + two + " < " + two + " then 3 else " + one + " - 252", 3);
        law("if " + one + " < " + two + " then " + two + " - 380 else 4", 3);
        String no = "if " + two + " < " + one + " then 9 else ";
        law(no + no + no + "if 254 < " + one + " then 3 else 4", 3);
        law(no + no + no + "if 255 < " + one + " then 3 else " + one + " - 253", 2);
    }

    // ---- LOTS

    private static long lot(int n, long seed, long which) {
        long h = seed;
        for (long it : new long[] {187, which}) {
            h = ((h ^ it) * 1103515245L + 12345L) % 4294967296L;
            h = h ^ h / 32768;
        }
        return h / 2 % n;
    }

    private static int bits(int seed, int day, int seeker, int strays) {
        int bits = 0;
        for (int i = 0; i < 8; i++) {
            bits += lot(4, seed, 64L * day + 8L * seeker + i) < strays ? 1 << i : 0;
        }
        return bits;
    }

    /** "STEP i STRAYS if LOT 4 of the SEED and 64 * the day and 8 * their number and i is less than STRAYS" */
    private static void lots() {
        // from a script apart: SEED, day, which SEEKER, the LOTS of STEPS 0 to 7
        int[][] known = {{0, 0, 0, 0, 0, 1, 0, 3, 0, 1, 3}, {0, 1, 4, 1, 2, 3, 1, 0, 3, 0, 1},
            {9999, 0, 0, 1, 2, 3, 1, 0, 3, 0, 1}, {9999, 60, 4, 3, 0, 1, 3, 2, 1, 2, 3}, {1, 60, 4, 1, 0, 3, 0, 1, 3, 2, 1}};
        for (int[] k : known) {
            LostBuyer[] x = new LostBuyer[5];
            for (int strays = 0; strays <= 4; strays++) {
                x[strays] = due.of(TO_AND_FRO + "seed " + k[0] + "; strays = " + strays + ";");
                x[strays].days(k[1]);
                int bits = 0;
                for (int i = 0; i < 8; i++) {
                    bits |= k[3 + i] < strays ? 1 << i : 0;
                }
                due.is("STRAYED by SEED " + k[0] + ", day " + k[1] + ", SEEKER " + k[2] + ", STRAYS " + strays,
                        x[strays].walk(k[2], 3), bits);
            }
        }
        for (int seed : new int[] {0, 1, 186, 187, 188, 4096, 9998, 9999}) {
            for (int day : new int[] {0, 1, 7, 59, 60}) {
                for (int strays = 0; strays <= 4; strays++) {
                    LostBuyer x = due.of(TO_AND_FRO + "seed " + seed + "; strays = " + strays + ";");
                    x.days(day);
                    for (int s = 0; s < 5; s++) {
                        String of = " by SEED " + seed + ", day " + day + ", SEEKER " + s + ", STRAYS " + strays;
                        due.is("STRAYED" + of, x.walk(s, 3), bits(seed, day, s, strays));
                        due.is("STEPS" + of, x.walk(s, 2), 8);
                    }
                }
            }
        }
    }

    /** ".. is less than STRAYS": of the CORNER where they are at that STEP, only as long as the WALK goes on. */
    private static void lotsByCorner() {
        int many = 0;
        for (int seed = 0; seed < 60; seed++) {
            LostBuyer x = due.of(SWING + "seed " + seed + ";");
            for (int s = 0; s < 3; s++) {
                // from a at STEPS 1, 3, .., from b at 0, 2, .., from z at 2, 4, ..
                int strayed = -1;
                for (int i = s == 0 ? 1 : s == 1 ? 0 : 2; i < 8 && strayed < 0; i += 2) {
                    strayed = lot(4, seed, 8L * s + i) < 1 ? i : -1;
                }
                String of = " by SEED " + seed + " of " + s;
                due.is("STRAYED" + of, x.walk(s, 3), strayed < 0 ? 0 : 1 << strayed);
                due.is("STEPS" + of, x.walk(s, 2), strayed < 0 ? 8 : strayed + 1);
                due.is("miles" + of, x.walk(s, 1), strayed < 0 ? 8 : strayed + 1);
                due.is("where it ends" + of, x.walk(s, 0), strayed >= 0 ? 2 : s == 0 ? 0 : 1);
                many += strayed == 7 ? 1 : 0;
            }
        }
        due.is("some STRAY at STEP 7 alone", many > 0, true);
    }

    /** "An object is used for at most 512 calls after it has been made" */
    private static void calls() {
        LostBuyer x = new LostBuyer();
        Due.type(x, TO_AND_FRO + "seed 9999; strays = 2;");
        int calls = (TO_AND_FRO.length() + 22 + 19) / 20 + 1;
        due.is("read()", x.read(), 0);
        calls++;
        int day = 0;
        while (calls < 510) {
            day += 60;
            due.is("days(60)", x.days(60), day);
            calls++;
        }
        due.is("STRAYED on day " + day, x.walk(4, 3), bits(9999, day, 4, 2));
        due.is("day by the last call", x.count(3), day);
    }

    // ---- WALKS

    /** "in STEPS 0 .. 7, at most 8" .. "They COME if they are at the HOUSE behind 8 STEPS at most." */
    private static void eightSteps() {
        LostBuyer x = due.of(SWING);
        due.is("comes from a, by STEP 7 at last", x.comes(0), 44800);
        due.is("comes from b, by STEP 6 at last", x.comes(1), 44800);
        due.is("comes from z, not by a 9th STEP", x.comes(2), 37888);
        due.is("miles from a", x.miles(0), 2 * 16384 + 4 * 12288 + 6 * 9216 + 8 * 6912 + 8 * 20736);
        due.is("miles from b", x.miles(1), 16384 + 3 * 12288 + 5 * 9216 + 7 * 6912 + 8 * 20736);
        due.is("miles from z", x.miles(2), 3 * 16384 + 5 * 12288 + 7 * 9216 + 8 * 27648);
        due.is("WAYS from z: by STEP 2, 4, 6, or never", x.ways(0, 2, 0), 4);
        // straight on through six LANES of 9 miles
        LostBuyer y = due.of("corner a 0; corner b 0; corner c 0; corner d 0; corner e 0; corner f 0; corner h 0; lane a b 9; "
                + "lane b c 9; lane c d 9; lane d e 9; lane e f 9; lane f h 9; post b 1; post c 1; post d 1; post e 1; post f 1; "
                + "house h; strays = 0; seeker s 0 a;");
        due.is("straight through six LANES", y.straight(0), 65536);
        due.is("STEPS", y.walk(0, 2), 6);
        due.is("miles", y.walk(0, 1), 54);
        due.is("SHORTEST", y.shortest(0), 54);
        // 8 STEPS of 9 miles, the most that can be
        LostBuyer z = due.of("corner a 0; corner b 0; corner h 0; lane a b 9; house h; seeker s 0 a;");
        due.is("the most miles of all CASES", z.miles(0), 72 * 65536);
        due.is("the most miles of a WALK", z.walk(0, 1), 72);
    }

    /** "at the HOUSE, or at a CORNER without LANES, it ends" */
    private static void ends() {
        LostBuyer x = due.of("corner a 0; corner h 0; corner b 0; corner z 0; lane a h 1; lane h b 1; house h; strays = 4; "
                + "seeker s 0 a; seeker t 0 h; seeker u 0 z; ");
        due.is("not further than the HOUSE", x.passes(0, 2), 0);
        due.is("STEPS to the HOUSE", x.walk(0, 2), 1);
        due.is("STEPS at the HOUSE", x.walk(1, 2), 0);
        due.is("ends at the HOUSE", x.walk(1, 0), 1);
        due.is("comes at the HOUSE", x.comes(1), 65536);
        due.is("straight at the HOUSE", x.straight(1), 65536);
        due.is("may at the HOUSE: not STRAYED", x.may(1), 0);
        due.is("miles at the HOUSE", x.miles(1), 0);
        due.is("uses at the HOUSE", x.uses(1, 0), 0);
        due.is("STEPS without LANES", x.walk(2, 2), 0);
        due.is("ends without LANES", x.walk(2, 0), 3);
        due.is("comes without LANES", x.comes(2), 0);
        due.is("STRAYED without LANES", x.walk(2, 3), 0);
        due.is("never without LANES", x.never(2), 7);
        LostBuyer y = due.of("corner z 0; seeker u 0 z; wrong 0; strays = 4;");
        due.is("comes at a HOUSE without LANES", y.comes(0), 65536);
        due.is("may at a HOUSE without LANES", y.may(0), 0);
    }

    /** "The SHORTEST from a CORNER: the fewest miles to the HOUSE by LANES." */
    private static void shortest() {
        LostBuyer x = due.of("corner a 0; corner b 0; corner c 0; corner h 0; corner z 0; lane a h 9; lane a b 1; lane b c 1; "
                + "lane c h 6; lane c h 7; lane b c 2; house h;");
        int[] far = {8, 7, 6, 0, -2};
        for (int c = 0; c < 5; c++) {
            due.is("SHORTEST of " + c, x.shortest(c), far[c]);
        }
        due.is("SHORTEST of one as far both ways", due.of("corner a 0; corner b 0; corner h 0; lane a h 9; lane a b 1; lane b h 8; "
                + "house h;").shortest(0), 9);
        x.turn(0, 1);
        x.days(5);
        due.is("SHORTEST, whatever the SIGNS", x.shortest(0), 8);
    }

    /** "They MAY BUY if they COME, STRAYED once or more, and walked WRONG miles or more above the SHORTEST" */
    private static void mayBuy() {
        // above the SHORTEST one walks 0, 2, 4 or 6 miles
        int[] may = {44800, 28416, 28416, 16128, 16128, 6912, 6912, 0, 0};
        for (int wrong = 0; wrong <= 8; wrong++) {
            due.is("may of WRONG " + wrong, due.of(SWING + "wrong " + wrong + ";").may(0), may[wrong]);
            due.is("may of WRONG " + wrong + " from b", due.of(SWING + "wrong " + wrong + ";").may(1), may[wrong]);
        }
        due.is("may of WRONG 99", due.of(SWING + "wrong 99;").may(0), 0);
        // 8 miles more than the SHORTEST, but never STRAYED
        String two = "corner a 0; corner h 0; lane a h 9; lane a h 1; house h; wrong 0; seeker s 0 a; ";
        due.is("far, not STRAYED", due.of(two + "strays = 0;").may(0), 0);
        due.is("far, not STRAYED, comes", due.of(two + "strays = 0;").comes(0), 65536);
        due.is("STRAYED, no mile more, WRONG 0", due.of(two + "strays = 4;").may(0), 65536);
        due.is("STRAYED, no mile more, WRONG 1", due.of(two + "strays = 4; wrong 1;").may(0), 0);
        due.is("STRAYED, 8 more, WRONG 8", due.of(two + "strays = 4; post a 1; wrong 8;").may(0), 65536);
        due.is("STRAYED, 8 more, WRONG 9", due.of(two + "strays = 4; post a 1; wrong 9;").may(0), 0);
        // one LANE alone: who STRAYS takes the same one
        due.is("STRAYED along the only LANE", due.of(LINE + "strays = 4;").may(0), 65536);
        due.is("STRAYED along the only LANE, bits", due.of(LINE + "strays = 4;").walk(0, 3), 1);
        due.is("STRAYED, but did not COME", due.of("corner a 0; corner b 0; corner h 0; lane a b 1; house h; wrong 0; strays = 4; "
                + "seeker s 0 a;").may(0), 0);
    }

    /** "A CASE: each of 4 to the 8: 65,536; each STEP has its own quarters, walked or not." */
    private static void cases() {
        int[] quarters = {0, 16384, 32768, 49152, 65536};
        for (int strays = 0; strays <= 4; strays++) {
            LostBuyer x = due.of(LINE + "strays = " + strays + ";");
            due.is("may by one STEP of " + strays + " quarters", x.may(0), quarters[strays]);
            due.is("straight by one STEP of " + strays + " quarters", x.straight(0), 65536 - quarters[strays]);
            due.is("comes", x.comes(0), 65536);
            due.is("all CASES", x.ways(0, 0, 1), 65536);
            due.is("WAYS", x.ways(0, 0, 0), strays == 0 || strays == 4 ? 1 : 2);
            LostBuyer y = due.of(TO_AND_FRO + "strays = " + strays + ";");
            due.is("WAYS by 8 STEPS", y.ways(0, 0, 0), strays == 0 || strays == 4 ? 1 : 256);
            due.is("all CASES by 8 STEPS", y.ways(0, 0, 1), 65536);
        }
        // by 8 STEPS, one quarter each: one CASE in which all 8 STRAY
        LostBuyer x = due.of(TO_AND_FRO);
        for (int i = 0; i <= 8; i++) {
            x.tell(0, i, i % 2, true);
        }
        due.is("WAYS to and fro", x.ways(9, 0, 0), 256);
        due.is("that with most", x.ways(9, 0, 2), 0);
        due.is("that with most of 3 quarters", due.of(TO_AND_FRO + "strays = 3;").ways(0, 0, 2), 255);
    }

    // ---- what happens

    /** "SEEKERS are HOME at first. One HOME is SENT OUT, if the HOUSE is not SOLD" .. "others are OUT" */
    private static void sentOut() {
        LostBuyer x = due.of(SWING + "seeker v 0 h; wrong 7;");
        due.is("HOME at first", x.count(7), 15);
        due.is("OUT at first", x.count(13), 0);
        for (int s = 0; s < 4; s++) {
            due.is("where the WALK ends", x.walk(s, 0), x.send(s));
            due.is("others are OUT", x.seeker(s, 2), 1);
        }
        due.is("HOME then", x.count(7), 0);
        due.is("OUT then", x.count(13), 15);
        due.is("nobody bought", x.count(5), -2);
        due.is("for nothing", x.count(6), 0);
        // by a script apart, LOT 4 of STEP 0 is 0 of SEED 9990, and 2 of SEED 9991
        LostBuyer y = due.of(LINE + "seed 9990; asks = 1000;");
        due.is("LOT 0 STRAYS", y.send(0), 1);
        due.is("bought", y.seeker(0, 2), 2);
        due.is("for 999 at most", y.count(6), 999);
        LostBuyer z = due.of(LINE + "seed 9991;");
        due.is("LOT 2 does not STRAY", z.send(0), 1);
        due.is("OUT", z.seeker(0, 2), 1);
        due.is("not SOLD", z.count(5), -2);
        due.is("for 0", due.of(LINE + "strays = 4; asks = 0 - 5;").send(0), 1);
        LostBuyer free = due.of(LINE + "strays = 4; asks = 0 - 5;");
        free.send(0);
        due.is("SOLD for 0", free.count(6), 0);
        due.is("SOLD all the same", free.count(5), 0);
    }

    /** "A DAY: the FOG is what THICKENS tells, if that LAW is told. It is the next day." */
    private static void days() {
        LostBuyer x = due.of("mist 3; thickens = day;");
        int[] fog = {3, 0, 1, 2, 3, 4, 5, 6, 7, 8, 9, 9, 9};
        for (int day = 0; day < fog.length; day++) {
            due.is("day", x.count(3), day);
            due.is("FOG of day " + day, x.count(4), fog[day]);
            due.is("FOG IN 1 DAY", x.fogIn(1), day + 1 < fog.length ? fog[day + 1] : 9);
            due.is("days(1)", x.days(1), day + 1);
        }
        x = due.of("mist 1; thickens = fog * 2 + 1;");
        int[] twice = {1, 3, 7, 9, 9};
        for (int n = 0; n < twice.length; n++) {
            due.is("FOG IN " + n, x.fogIn(n), twice[n]);
        }
        x = due.of("mist 9; thickens = fog - 4;");
        int[] less = {9, 5, 1, 0, 0};
        for (int n = 0; n < less.length; n++) {
            due.is("FOG IN " + n, x.fogIn(n), less[n]);
        }
        due.is("THICKENS not told", due.of("mist 9;").fogIn(60), 9);
        due.is("THICKENS told as 0", due.of("mist 9; thickens = 0;").fogIn(1), 0);
        due.is("THICKENS by 0 divided", due.of("mist 9; thickens = 5 / fog + 1 / (fog - 9);").fogIn(1), 0);
    }

    public static void main(String[] args) {
        shown();
        takenLane();
        held();
        vars();
        ifs();
        byZero();
        wraps();
        deep();
        lots();
        lotsByCorner();
        calls();
        eightSteps();
        ends();
        shortest();
        mayBuy();
        cases();
        sentOut();
        days();
        due.end();
    }
}
