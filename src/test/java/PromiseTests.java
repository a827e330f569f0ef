/**
 * Each promise of the document, with answers worked out by hand from its words.
 *
 * In TRIANGLE a WALK from a goes by quarters 3 to h, 1 to b; from b 3 to a, 1 to h: so behind k
 * rounds by b, of all 65,536 CASES 65,536 * (3/16)^k are at a still: 12,288, 2,304, 432, 81.
 * Its WALKS, as the STEPS STRAYED (bits), with their CASES: 0: 49,152; 3: 4,096; 1: 9,216;
 * 13: 768; 5: 1,728; 53: 144; 21: 324; 213: 27; and 85, which never comes: 81.
 */
public final class PromiseTests {
    private static final Due due = new Due();

    private static final String CORNERS = "corner a 1; corner b 2; corner h 3; corner z 4; ";
    private static final String TRIANGLE = CORNERS
            + "lane a h 2; lane a b 1; lane b h 5; house h; seeker s 3 a; seeker t 5 b; seeker u 0 z; ";
    private static final String LINE = "corner a 0; corner h 0; lane a h 1; house h; wrong 0; seeker s 0 a; ";
    private static final String TO_AND_FRO = "corner a 0; corner b 0; corner h 0; lane a b 3; house h; "
            + "seeker p 0 a; seeker q 0 a; seeker r 0 a; seeker s 0 b; ";

    private static void fault(String text, int fault, int place) {
        LostBuyer x = new LostBuyer();
        Due.type(x, text);
        due.is("read() of " + text, x.read(), fault);
        due.is("place() of " + text, x.place(), place);
        due.is("count(8) then", x.count(8), 0);
    }

    private static String times(String text, int n) {
        StringBuilder b = new StringBuilder();
        for (int i = 0; i < n; i++) {
            b.append(text.replace('#', (char) ('a' + i)));
        }
        return b.toString();
    }

    private static void newObject() {
        LostBuyer x = new LostBuyer();
        int[] want = {0, 0, 0, 0, 0, -2, 0, 0, 0, 0, 0, 0, -2, 0, 0, 0, 0, -1};
        for (int what = 0; what < want.length; what++) {
            due.is("new count(" + what + ")", x.count(what), want[what]);
        }
        due.is("NONE", LostBuyer.NONE, -1);
        due.is("new place()", x.place(), -1);
        due.is("new undo()", x.undo(), false);
        due.is("new who()", x.who(), -2);
    }

    private static void feedAndBack() {
        LostBuyer x = new LostBuyer();
        due.is("feed", x.feed(0x636f726e, 0x65722061, 0x2039393b, 0x20202020, 0x20202020), 20);
        due.is("back(-1)", x.back(-1), -1);
        due.is("back(21)", x.back(21), -1);
        due.is("back(0)", x.back(0), 20);
        due.is("back(8)", x.back(8), 12);
        due.is("read() of 'corner a 99;'", x.read(), 5);
        due.is("place()", x.place(), 9);
        due.is("back(1) of nothing", x.back(1), -1);
        for (int i = 1; i <= 100; i++) {
            due.is("feed " + i, x.feed(0x20202020, 0x20202020, 0x20202020, 0x20202020, 0x20202020), 20 * i);
        }
        due.is("feed 101", x.feed(0, 0, 0, 0, 0), -1);
        due.is("count(8)", x.count(8), 2000);
        due.is("back(1)", x.back(1), 1999);
        due.is("feed beyond", x.feed(0, 0, 0, 0, 0), -1);
        due.is("back(18)", x.back(18), 1981);
        due.is("feed to 2001", x.feed(0, 0, 0, 0, 0), -1);
        due.is("back(1)", x.back(1), 1980);
        due.is("feed to 2000", x.feed(0, 0, 0, 0, 0), 2000);
        due.is("back(1)", x.back(1), 1999);
        due.is("back(min)", x.back(Integer.MIN_VALUE), -1);
        due.is("back(max)", x.back(Integer.MAX_VALUE), -1);
        due.is("back(1999)", x.back(1999), 0);
        Due.type(x, "corner a " + (char) 200 + ";");
        due.is("read() of a high byte", x.read(), 1);
        due.is("place() of a high byte", x.place(), 9);
    }

    private static void syntaxFaults() {
        fault("", 0, -1);
        fault(" \t\r\n", 0, -1);
        fault("x", 1, 0);
        fault("  ;", 1, 2);
        fault("corner", 1, 6);
        fault("corner  ", 1, 8);
        fault("corner a 1", 1, 10);
        fault("corner a 1; .", 1, 12);
        fault("corner A 1;", 1, 7);
        fault("corner abcdefgh 1;", 0, -1);
        fault("corner abcdefghi 1;", 1, 7);
        fault("corner a 00001;", 1, 9);
        fault("corner a 0001;", 0, -1);
        fault("corner a1;cornerb2;", 1, 10);
        fault("corner a1;corner b2;lane a b3;house b;", 0, -1);
        fault("corner if 1;", 1, 7);
        fault("corner sense 1;", 1, 7);
        fault("corner lanes 1;", 1, 7);
        fault("corner ifs 1;", 0, -1);
        fault("corner 1 a;", 1, 7);
        fault("corner a b;", 1, 9);
        fault("corner a 1 corner", 1, 11);
        fault("house;", 1, 5);
        fault("post a;", 1, 6);
        fault("seeker a 1;", 1, 10);
        fault("wrong a;", 1, 6);
        fault("seed 1 2;", 1, 7);
        fault("strays 1;", 1, 7);
        fault("strays = ;", 1, 9);
        fault("strays = 1 + ;", 1, 13);
        fault("strays = - 1;", 1, 9);
        fault("strays = (1;", 1, 11);
        fault("strays = 1);", 1, 10);
        fault("strays = 1 < 2;", 1, 11);
        fault("strays = if 1 then 2 else 3;", 1, 14);
        fault("strays = if 1 < 2 then 2;", 1, 24);
        fault("strays = if 1 < 2 then if 1 < 2 then 1 else 2 else 3;", 1, 23);
        fault("strays = if 1 < 2 then 2 else if 2 < 1 then 1 else 3;", 0, -1);
        fault("strays = (if 1 < 2 then 2 else 3);", 1, 10);
        fault("strays = a;", 1, 9);
        fault("strays = sense dark;", 1, 15);
        fault("thickens=1;asks=2;fears=3;strays=4;", 0, -1);
        fault("strays = sense+dark*fog-long/day+lanes*which+sold-miles;", 0, -1);
        fault(new String(new char[] {'w', 'r', 'o', 'n', 'g', 11, '1', ';'}), 1, 5);
        fault(new String(new char[] {'w', 'r', 'o', 'n', 'g', 0, '1', ';'}), 1, 5);
    }

    private static void roomFaults() {
        fault(times("corner # 1;", 7), 0, -1);
        fault(times("corner # 1;", 8), 2, 77);
        fault(times("corner # 1;", 7) + "corner ;", 2, 77);
        fault(times("corner # 1;", 6) + "corner ;" + times("corner # 1;", 7), 1, 73);
        fault("corner a 1;corner b 1;" + times("lane a b 1;", 10), 0, -1);
        fault("corner a 1;corner b 1;" + times("lane a b 1;", 11), 2, 22 + 110);
        fault("corner x 1;" + times("seeker # 1 x;", 5), 0, -1);
        fault("corner x 1;" + times("seeker # 1 x;", 6), 2, 11 + 65);
        fault("corner x 1;" + times("post x 1;", 7), 0, -1);
        fault("corner x 1;" + times("post x 1;", 8), 2, 11 + 63);
        fault("corner x 1;" + times("house x;", 20) + times("seed 1;", 20) + times("asks = 1;", 20), 0, -1);
        fault("asks = " + times("if 1 < 2 then 3 else ", 4) + "5;", 0, -1);
        fault("asks = " + times("if 1 < 2 then 3 else ", 5) + "5;", 2, 7 + 84);
        fault("asks = " + times("if 1 < 2 then 3 else ", 4) + "5; fears = if 1 < 2 then 3 else 4;", 0, -1);
        fault("asks = ((((((1))))));", 0, -1);
        fault("asks = (((((((1)))))));", 2, 13);
        fault("asks = " + times("(1)+", 9) + "1;", 0, -1);
        fault("asks = " + times("(1)+", 9) + "((((((1+((2))))))));", 2, 7 + 36 + 8);
        // 3 TOKENS each: 133 of them are 399
        fault(times("wrong 1;", 133), 0, -1);
        fault(times("wrong 1;", 133) + "wrong", 1, 1069);
        fault(times("wrong 1;", 133) + "wrong 1", 2, 1070);
        fault(times("wrong 1;", 133) + "wrong ;", 1, 1070);
        fault(times("wrong 1;", 133) + "wrong #", 1, 1070);
        fault("asks = 1;" + times("wrong 1;", 132), 0, -1);
        fault("asks = 1;" + times("wrong 1;", 132) + " mist 1;", 2, 9 + 1056 + 1);
        fault("asks = 1;" + times("wrong 1;", 132) + " miles 1;", 1, 9 + 1056 + 1);
        // a FAULT of a sort that comes first by its place, though that sort counts later
        fault("corner a 99;" + times("corner # 1;", 7), 2, 12 + 66);
        fault("corner a 99; corner", 1, 19);
    }

    private static void otherFaults() {
        fault("corner a 1; corner a 1;", 3, 19);
        fault(times("corner #aaaaaaa 1;", 7), 0, -1);
        fault(times("corner aaaaaaa# 1;", 7), 0, -1);
        fault("corner a 1; corner aa 1; corner aaa 1; corner aaaa 1; seeker aaaaa 1 a;", 0, -1);
        fault("corner a 1; seeker a 1 a;", 3, 19);
        fault("corner a 1; seeker b 1 a; seeker b 1 a;", 3, 33);
        fault("corner a 1; seeker b 1 a; corner b 1;", 3, 33);
        fault("corner a 1; lane a a 1;", 3, 19);
        fault("corner a 1; lane b b 1;", 4, 17);
        fault("corner a 1; lane a b 1; corner b 1;", 4, 19);
        fault("house a;", 4, 6);
        fault("house a; corner a 1;", 4, 6);
        fault("post a 1;", 4, 5);
        fault("corner a 1; seeker b 1 b;", 4, 23);
        fault("corner a 1; seeker b 1 a; house b;", 4, 32);
        fault("corner a 10;", 5, 9);
        fault("corner a 9; corner b 1; lane a b 0;", 5, 33);
        fault("corner a 9; corner b 1; lane a b 10;", 5, 33);
        fault("corner a 9; corner b 1; lane a b 9;", 0, -1);
        fault("corner a 9; seeker b 10 a;", 5, 21);
        fault("corner a 9; seeker b 10 c;", 5, 21);
        fault("corner a 9; post a 10;", 5, 19);
        fault("corner a 9; post a 9;", 0, -1);
        fault("wrong 99; mist 9; seed 9999;", 0, -1);
        fault("wrong 100;", 5, 6);
        fault("mist 10;", 5, 5);
        fault("asks = 9999;", 0, -1);
        fault("wrong 100; house a;", 5, 6);
        fault("house a; wrong 100;", 4, 6);
        fault("corner a 99; corner a 1;", 5, 9);
    }

    private static void readInPlace() {
        LostBuyer x = due.of(TRIANGLE + "mist 3;");
        x.fog(true);
        x.turn(0, 1);
        x.days(2);
        x.send(2);
        x.tell(0, 1, 1, true);
        x.hold(1);
        Due.type(x, "corner k 1; corner k 2;");
        due.is("read() with a fault", x.read(), 3);
        int[] kept = {4, 3, 3, 2, 4, -2, 0, 3, 0, 4, 1, 1, 2, 4, 8, 8, 10};
        for (int what = 0; what < kept.length; what++) {
            due.is("count(" + what + ") behind a fault", x.count(what), kept[what]);
        }
        due.is("corner(0, 2) behind a fault", x.corner(0, 2), 1);
        Due.type(x, "corner k 7; mist 2; seeker y 1 k;");
        due.is("read() without", x.read(), 0);
        due.is("place() without", x.place(), -1);
        int[] begun = {1, 0, 1, 0, 2, -2, 0, 1, 0, 0, 0, 0, 0, 0, 0, 1, 7};
        for (int what = 0; what < begun.length; what++) {
            due.is("count(" + what + ") of the next text", x.count(what), begun[what]);
        }
        due.is("restore(1) of the text ahead", x.restore(1), false);
        due.is("undo() of the text ahead", x.undo(), false);
        Due.type(x, TRIANGLE);
        due.is("read() again", x.read(), 0);
        due.is("corner(0, 2) told anew", x.corner(0, 2), 0);
        due.is("strays law gone", x.strays(0, 0), 1);
        Due.type(x, "corner a 0; corner b 0; lane a b 1; post a 3; post a 4; strays = 2; strays = 3; "
                + "house a; house b; wrong 7; wrong 0; mist 5; mist 6; seeker s 0 a;");
        due.is("read() of the last ones", x.read(), 0);
        due.is("turn to the last post", x.turn(0, 4), false);
        due.is("strays by the last law", x.strays(0, 0), 3);
        due.is("the last house", x.count(12), 1);
        due.is("the last mist", x.count(4), 6);
        due.is("the last wrong", x.may(0), 49152);
    }

    /** Nothing of texts ahead is left in a later one, however many there were. */
    private static void readOften() {
        LostBuyer x = new LostBuyer();
        String much = TRIANGLE + "post a 1; post b 1; post h 1; strays = 3; asks = 5; fears = 6; thickens = 7; "
                + "wrong 0; mist 8; seed 9999;";
        String bare = CORNERS + "lane a b 3; seeker s 3 b; ";
        for (int i = 0; i < 4; i++) {
            Due.type(x, much);
            due.is("read() of much", x.read(), 0);
            due.is("strays(0, 0) of much", x.strays(0, 0), 3);
            due.is("tells(0, 9, 0) of much", x.tells(0, 9, 0), 5);
            due.is("corner(2, 1) of much", x.corner(2, 1), 5);
            if (i < 2) {
                Due.type(x, much);
                due.is("read() of much again", x.read(), 0);
            }
            Due.type(x, bare);
            due.is("read() of little", x.read(), 0);
            due.is("house of little", x.count(12), 0);
            due.is("strays of little", x.strays(0, 1), 1);
            due.is("asks of little", x.tells(0, 9, 0), 9);
            due.is("fears of little", x.tells(0, 9, 1), 9);
            due.is("mist of little", x.count(4), 0);
            due.is("thickens of little", x.fogIn(3), 0);
            due.is("post of little", x.turn(1, 0), false);
            due.is("lanes of little", x.corner(1, 1), 1);
            due.is("lanes of little", x.corner(2, 1), 0);
            due.is("wrong of little", x.may(0), 0);
            due.is("shortest of little", x.shortest(2), -2);
        }
        for (int i = 0; i < 6; i++) {
            Due.type(x, TO_AND_FRO + "seed " + (i % 3 == 0 ? "9" : "0") + ";");
            due.is("read() of a seed", x.read(), 0);
            Due.type(x, TO_AND_FRO);
            due.is("read() without a seed", x.read(), 0);
            due.is("walk without a seed", x.walk(0, 3), 43);
        }
        String law = "asks = " + times("miles + 1 - ", 30) + "1;";
        for (int i = 0; i < 20; i++) {
            Due.type(x, TRIANGLE + law);
            due.is("read() of a long law", x.read(), 0);
            due.is("the long law", x.tells(0, 1, 0), 1);
        }
        Due.type(x, "corner abcdefgh 1;");
        due.is("read() of 8 letters", x.read(), 0);
        Due.type(x, "corner abcdefghi 1;");
        due.is("read() of 9 letters", x.read(), 1);
        due.is("place() of 9 letters", x.place(), 7);
        Due.type(x, "corner abcdefgh 12345;");
        due.is("read() of 5 digits", x.read(), 1);
        due.is("place() of 5 digits", x.place(), 16);
    }

    private static void fullTapes() {
        fault(times(" ", 2000), 0, -1);
        fault(times(" ", 1992) + "mist 10;", 5, 1997);
        fault(times(" ", 1995) + "wrong", 1, 2000);
        fault(times(" ", 1994) + "wrong1", 1, 2000);
        fault(times(" ", 1994) + "mist1;", 0, -1);
        fault(times("a", 2000), 1, 0);
        fault(times("1", 2000), 1, 0);
        fault("wrong " + times("1", 1994), 1, 6);
        fault(times(";", 2000), 1, 0);
        fault("asks=" + times("1+", 198) + "1;", 0, -1);
        fault("asks=" + times("1+", 199) + "1;", 2, 5 + 398);
    }

    private static void whatThereIs() {
        LostBuyer x = due.of(TRIANGLE + "post a 3; post b 4;");
        int[][] corners = {{1, 3, 1, 0, -1}, {2, 6, 1, 0, -1}, {3, 5, 0, 1, -1}, {4, 0, -2, 0, -1}};
        for (int c = 0; c < 4; c++) {
            for (int what = 0; what < 5; what++) {
                due.is("corner(" + c + ", " + what + ")", x.corner(c, what), corners[c][what]);
            }
        }
        due.is("corner(4, 0)", x.corner(4, 0), -1);
        due.is("corner(-1, 0)", x.corner(-1, 0), -1);
        due.is("corner(0, -1)", x.corner(0, -1), -1);
        int[][] lanes = {{0, 2, 2, -1}, {0, 1, 1, -1}, {1, 2, 5, -1}};
        for (int l = 0; l < 3; l++) {
            for (int what = 0; what < 4; what++) {
                due.is("lane(" + l + ", " + what + ")", x.lane(l, what), lanes[l][what]);
            }
        }
        due.is("lane(3, 0)", x.lane(3, 0), -1);
        due.is("lane(-1, 0)", x.lane(-1, 0), -1);
        due.is("lane(0, -1)", x.lane(0, -1), -1);
        int[][] seekers = {{3, 0, 0, -1}, {5, 1, 0, -1}, {0, 3, 0, -1}};
        for (int s = 0; s < 3; s++) {
            for (int what = 0; what < 4; what++) {
                due.is("seeker(" + s + ", " + what + ")", x.seeker(s, what), seekers[s][what]);
            }
        }
        due.is("seeker(3, 0)", x.seeker(3, 0), -1);
        due.is("seeker(-1, 0)", x.seeker(-1, 0), -1);
        due.is("seeker(0, -1)", x.seeker(0, -1), -1);
        due.is("house without being told", due.of(CORNERS).count(12), 0);
        // of three LANES the SIGN 5 shows that at place 2; behind the last one is the first
        LostBuyer y = due.of("corner a 0; corner b 0; lane b a 1; lane a b 2; lane a b 3; post a 5;");
        due.is("corner(0, 2) of three", y.corner(0, 2), 2);
        due.is("corner(0, 1) of three", y.corner(0, 1), 7);
    }

    private static void laws() {
        LostBuyer x = due.of(TRIANGLE + "strays = sense - 2;");
        due.is("strays(0, 0)", x.strays(0, 0), 1);
        due.is("strays(1, 0)", x.strays(1, 0), 3);
        due.is("strays(2, 0) held to 0", x.strays(2, 0), 0);
        due.is("strays(2, 3) no lanes", x.strays(2, 3), 0);
        due.is("strays(0, 4)", x.strays(0, 4), -1);
        due.is("strays(0, -1)", x.strays(0, -1), -1);
        due.is("strays(3, 0)", x.strays(3, 0), -1);
        due.is("strays(-1, 0)", x.strays(-1, 0), -1);
        due.is("strays held to 4", due.of(TRIANGLE + "strays = 7;").strays(0, 0), 4);
        due.is("strays if not told", due.of(TRIANGLE).strays(0, 1), 1);
        due.is("strays at the house", due.of(TRIANGLE).strays(0, 2), 1);
        due.is("no lanes, not told", due.of(TRIANGLE).strays(0, 3), 0);
        due.is("dark", due.of(TRIANGLE + "strays = dark;").strays(0, 1), 2);
        due.is("long", due.of(TRIANGLE + "strays = long;").strays(0, 0), 2);
        due.is("long of the turned", due.of(TRIANGLE + "post a 1; strays = long;").strays(0, 0), 1);
        due.is("lanes", due.of(TRIANGLE + "strays = lanes;").strays(0, 0), 2);
        due.is("which", due.of(TRIANGLE + "strays = which;").strays(2, 0), 2);
        due.is("fog", due.of(TRIANGLE + "mist 3; strays = fog;").strays(2, 0), 3);
        due.is("miles is not told there", due.of(TRIANGLE + "strays = miles + 2;").strays(0, 0), 2);
        x = due.of(TRIANGLE + "strays = day;");
        x.days(3);
        due.is("day", x.strays(0, 0), 3);
        x = due.of(TRIANGLE + "asks = miles; fears = 1000 - miles * 2;");
        due.is("tells(0, 99, 0)", x.tells(0, 99, 0), 99);
        due.is("tells(0, 0, 1) held to 999", x.tells(0, 0, 1), 999);
        due.is("tells(0, 99, 1)", x.tells(0, 99, 1), 802);
        due.is("tells(0, 100, 0)", x.tells(0, 100, 0), -1);
        due.is("tells(0, -1, 0)", x.tells(0, -1, 0), -1);
        due.is("tells(0, 1, 2)", x.tells(0, 1, 2), -1);
        due.is("tells(0, 1, -1)", x.tells(0, 1, -1), -1);
        due.is("tells(3, 1, 0)", x.tells(3, 1, 0), -1);
        due.is("tells(-1, 1, 0)", x.tells(-1, 1, 0), -1);
        x = due.of(TRIANGLE);
        due.is("asks if not told", x.tells(0, 12, 0), 12);
        due.is("fears if not told", x.tells(0, 13, 1), 13);
        x = due.of(TRIANGLE + "asks = sense * 10 + which + dark + long + lanes;");
        due.is("dark, long, lanes are not told there", x.tells(1, 5, 0), 51);
        sums();
    }

    private static void sum(String law, int want) {
        due.is("asks = " + law, due.of(TRIANGLE + "asks = " + law + ";").tells(0, 7, 0), want);
    }

    private static void sums() {
        sum("1 + 2 * 3", 7);
        sum("(1 + 2) * 3", 9);
        sum("20 - 3 - 4", 13);
        sum("20 / 3 / 2", 3);
        sum("20 / 3 * 2", 12);
        sum("7 * 20 / 3", 46);
        sum("0 - 5", 0);
        sum("10 + (0 - 7) / 2", 7);
        sum("5 / 0", 0);
        sum("5 + 5 / 0", 0);
        sum("if 1 < 2 then 3 else 4", 3);
        sum("if 2 < 2 then 3 else 4", 4);
        sum("if 2 < 1 then 3 else if 1 < 2 then 5 else 6", 5);
        sum("if 2 < 1 then 3 else if 3 < 2 then 5 else 6", 6);
        sum("if 1 < 2 then 3 else if 1 / 0 < 2 then 5 else 6", 3);
        sum("if 2 < 1 then 3 else if 1 / 0 < 2 then 5 else 6", 0);
        sum("if 2 < 1 then 1 / 0 else 6", 6);
        sum("if 1 < 2 then 5 else 1 / 0", 5);
        sum("if 1 < 2 then 1 / 0 else 6", 0);
        sum("if 0 - 1 < 0 then 8 else 9", 8);
        // 9999 * 9999 * 9999 wraps to -1,027,349,969
        sum("9999 * 9999 * 9999 / 1000 / 1000 + 1500", 473);
        // -2 to the 31 by -1 wraps to itself
        sum("if 8192 * 8192 * 32 / (0 - 1) < 0 then 1 else 2", 1);
        sum("if ((((((1)))))) < ((((((2)))))) then ((((((3)))))) else ((((((4))))))", 3);
        sum("if ((((((3)))))) < ((((((2)))))) then ((((((3)))))) else ((((((4))))))", 4);
        String deep = "1 + 2 * (1 + 2 * (1 + 2 * (1 + 2 * (1 + 2 * (1 + 2 * (1 + 2 * miles))))))";
        // 127 + 128 * 7
        sum(deep + " - 100", 923);
        sum("if 9999 < " + deep + " then 1 else if 1022 < " + deep + " then 2 else if 1023 < " + deep
                + " then 3 else if 9998 < " + deep + " then 4 else 5", 2);
        sum("if 9999 < " + deep + " then 1 else if 9998 < " + deep + " then 2 else if 9997 < " + deep
                + " then 3 else if 9996 < " + deep + " then 4 else " + deep + " - 100", 923);
        sum("1+(2+(3+(4+(5+(6+7*miles)*1)*1)*1)*1)*1", 70);
        sum("1*2+3*(4*5+6*(7*8+9*(1*2+3*(4*5+6*(7-6*1)))))/100", 2 + 3 * (20 + 6 * (56 + 9 * (2 + 3 * 26))) / 100);
    }

    private static void sending() {
        LostBuyer x = due.of(TRIANGLE + "strays = 4; asks = 100 - miles - 50 * sold;");
        // always STRAYING: a to b by lane 1, b to h by lane 2: 6 miles, 4 more than the shortest
        due.is("send(3)", x.send(3), -1);
        due.is("send(-1)", x.send(-1), -1);
        due.is("send(2)", x.send(2), 3);
        due.is("seeker(2, 2)", x.seeker(2, 2), 1);
        due.is("send(2) again", x.send(2), -1);
        due.is("count(13)", x.count(13), 4);
        due.is("count(7)", x.count(7), 3);
        due.is("send(0)", x.send(0), 2);
        due.is("seeker(0, 2)", x.seeker(0, 2), 2);
        due.is("count(5)", x.count(5), 0);
        due.is("count(6)", x.count(6), 94);
        due.is("count(13)", x.count(13), 4);
        due.is("count(7)", x.count(7), 2);
        due.is("count(9)", x.count(9), 2);
        due.is("send(1) sold", x.send(1), -1);
        due.is("tells(1, 6, 0) sold", x.tells(1, 6, 0), 44);
        due.is("call(0) who bought", x.call(0), false);
        due.is("call(1) at home", x.call(1), false);
        due.is("call(3)", x.call(3), false);
        due.is("call(-1)", x.call(-1), false);
        due.is("call(2)", x.call(2), true);
        due.is("call(2) again", x.call(2), false);
        due.is("count(9)", x.count(9), 3);
        due.is("seeker(2, 2)", x.seeker(2, 2), 0);
        due.is("undo()", x.undo(), true);
        due.is("seeker(2, 2) undone", x.seeker(2, 2), 1);
        due.is("undo()", x.undo(), true);
        due.is("count(5) undone", x.count(5), -2);
        due.is("count(6) undone", x.count(6), 0);
        due.is("seeker(0, 2) undone", x.seeker(0, 2), 0);
        due.is("undo()", x.undo(), true);
        due.is("count(7) undone", x.count(7), 7);
        due.is("undo() of nothing", x.undo(), false);
        LostBuyer y = due.of(TRIANGLE + "strays = 0;");
        due.is("send(0) straight", y.send(0), 2);
        due.is("one who never strayed is out", y.seeker(0, 2), 1);
        LostBuyer z = due.of(TRIANGLE + "strays = 4; wrong 5;");
        due.is("send(0) not wrong enough", z.send(0), 2);
        due.is("is out", z.seeker(0, 2), 1);
        due.is("wrong 4 is enough", due.of(TRIANGLE + "strays = 4; wrong 4;").walk(0, 4), 1);
    }

    private static void turningAndFog() {
        LostBuyer x = due.of(TRIANGLE + "post b 1; mist 8;");
        due.is("turn(0, 0)", x.turn(0, 0), false);
        due.is("turn(1, 1)", x.turn(1, 1), false);
        due.is("turn(3, 1) no lanes", x.turn(3, 1), false);
        due.is("turn(4, 1)", x.turn(4, 1), false);
        due.is("turn(-1, 1)", x.turn(-1, 1), false);
        due.is("turn(0, 10)", x.turn(0, 10), false);
        due.is("turn(0, -1)", x.turn(0, -1), false);
        due.is("count(9)", x.count(9), 0);
        due.is("turn(0, 2)", x.turn(0, 2), true);
        due.is("corner(0, 2) as ahead", x.corner(0, 2), 0);
        due.is("turn(0, 9)", x.turn(0, 9), true);
        due.is("corner(0, 2)", x.corner(0, 2), 1);
        due.is("fog(true)", x.fog(true), true);
        due.is("fog(true) at 9", x.fog(true), false);
        due.is("count(4)", x.count(4), 9);
        due.is("undo() fog", x.undo(), true);
        due.is("count(4)", x.count(4), 8);
        due.is("undo() turn", x.undo(), true);
        due.is("corner(0, 2)", x.corner(0, 2), 0);
        due.is("turn(0, 2) already", x.turn(0, 2), false);
        for (int i = 0; i < 8; i++) {
            due.is("fog(false) " + i, x.fog(false), true);
        }
        due.is("fog(false) at 0", x.fog(false), false);
        due.is("count(9)", x.count(9), 9);
    }

    private static void daysAndUndo() {
        LostBuyer x = due.of(TRIANGLE + "mist 4;");
        due.is("days(0)", x.days(0), 0);
        due.is("count(9)", x.count(9), 0);
        due.is("days(60)", x.days(60), 60);
        due.is("days(61)", x.days(61), -1);
        due.is("days(-1)", x.days(-1), -1);
        due.is("days(1)", x.days(1), 61);
        due.is("fog stays, thickens not told", x.count(4), 4);
        due.is("count(9)", x.count(9), 2);
        due.is("undo()", x.undo(), true);
        due.is("count(3)", x.count(3), 60);
        x = due.of(TRIANGLE + "mist 4; thickens = day * 2 + fog - 1;");
        due.is("fogIn(0)", x.fogIn(0), 4);
        due.is("fogIn(1)", x.fogIn(1), 3);
        due.is("fogIn(3)", x.fogIn(3), 7);
        due.is("fogIn(4) held to 9", x.fogIn(4), 9);
        due.is("fogIn(60)", x.fogIn(60), 9);
        due.is("fogIn(61)", x.fogIn(61), -1);
        due.is("fogIn(-1)", x.fogIn(-1), -1);
        due.is("count(3) as ahead", x.count(3), 0);
        due.is("days(1)", x.days(1), 1);
        due.is("count(4)", x.count(4), 3);
        due.is("days(2)", x.days(2), 3);
        due.is("count(4)", x.count(4), 7);
        due.is("undo() two days at once", x.undo(), true);
        due.is("count(4)", x.count(4), 3);
        due.is("count(3)", x.count(3), 1);
        due.is("thickens = 0 is told", due.of(TRIANGLE + "mist 4; thickens = 0;").fogIn(1), 0);
        due.is("only fog, day, sold", due.of(TRIANGLE + "thickens = sense + dark + long + lanes + which + miles + 5;").fogIn(1), 5);
        x = due.of(TRIANGLE + "strays = 4; thickens = sold * 3 + 1;");
        x.send(0);
        due.is("sold thickens", x.fogIn(1), 4);
        x = due.of(TRIANGLE);
        for (int i = 1; i <= 45; i++) {
            x.days(1);
            due.is("count(9)", x.count(9), Math.min(i, 40));
        }
        for (int i = 0; i < 40; i++) {
            due.is("undo() " + i, x.undo(), true);
        }
        due.is("undo() of a 41st", x.undo(), false);
        due.is("count(3)", x.count(3), 5);
    }

    private static void cases() {
        LostBuyer x = due.of(TRIANGLE + "asks = miles * 10;");
        due.is("comes", x.comes(0), 65455);
        due.is("may", x.may(0), 16303);
        due.is("straight", x.straight(0), 49152);
        due.is("miles", x.miles(0), 181260);
        int[] passes = {65536, 16384, 65455, 0, -1};
        for (int c = 0; c < 5; c++) {
            due.is("passes(0, " + c + ")", x.passes(0, c), passes[c]);
        }
        due.is("never(0)", x.never(0), 8);
        due.is("never(2)", x.never(2), 7);
        due.is("worth", x.worth(0), 823080);
        due.is("afraid of 0", x.afraid(0, 0), 65455);
        due.is("afraid of 6", x.afraid(0, 6), 7087);
        due.is("afraid of 7", x.afraid(0, 7), 324 + 768 + 144 + 27);
        due.is("afraid of 13", x.afraid(0, 13), 0);
        due.is("afraid of 999", x.afraid(0, 999), 0);
        due.is("afraid of 1000", x.afraid(0, 1000), -1);
        due.is("afraid of -1", x.afraid(0, -1), -1);
        due.is("span fewest", x.span(0, 0), 4);
        due.is("span most", x.span(0, 1), 12);
        due.is("span 2", x.span(0, 2), -1);
        due.is("span -1", x.span(0, -1), -1);
        due.is("span of none", x.span(2, 0), -2);
        due.is("span of none", x.span(2, 1), -2);
        int[] uses = {60420, 16384, 5035, -1};
        for (int l = 0; l < 4; l++) {
            due.is("uses(0, " + l + ")", x.uses(0, l), uses[l]);
        }
        due.is("twice", x.twice(0), 12288);
        due.is("comes nowhere", x.comes(2), 0);
        due.is("miles nowhere", x.miles(2), 0);
        due.is("passes where they set out", x.passes(2, 3), 65536);
        due.is("twice nowhere", x.twice(2), 0);
        due.is("may of wrong 4", due.of(TRIANGLE + "wrong 4;").may(0), 7087);
        due.is("may of wrong 0", due.of(TRIANGLE + "wrong 0;").may(0), 16303);
        due.is("may of wrong 99", due.of(TRIANGLE + "wrong 99;").may(0), 0);
        LostBuyer y = due.of(LINE);
        due.is("one lane, strayed all the same", y.may(0), 16384);
        due.is("fears by its law", due.of(LINE + "fears = 20 - miles * 3;").afraid(0, 17), 65536);
        due.is("fears by its law", due.of(LINE + "fears = 20 - miles * 3;").afraid(0, 18), 0);
        due.is("worth held to 999", due.of(LINE + "strays = 4; asks = 5000;").worth(0), 65536 * 999);
        // sold or not, home or not
        x = due.of(TRIANGLE + "strays = 4 - 3 * sold;");
        x.send(0);
        due.is("may of the buyer", x.may(0), 16303);
    }

    private static void wrongSeekers() {
        LostBuyer x = due.of(TRIANGLE);
        for (int s : new int[] {-1, 3, Integer.MAX_VALUE, Integer.MIN_VALUE}) {
            String of = " of seeker " + s;
            due.is("comes" + of, x.comes(s), -1);
            due.is("may" + of, x.may(s), -1);
            due.is("straight" + of, x.straight(s), -1);
            due.is("miles" + of, x.miles(s), -1);
            due.is("passes" + of, x.passes(s, 0), -1);
            due.is("never" + of, x.never(s), -1);
            due.is("worth" + of, x.worth(s), -1);
            due.is("afraid" + of, x.afraid(s, 0), -1);
            due.is("span" + of, x.span(s, 0), -1);
            due.is("uses" + of, x.uses(s, 0), -1);
            due.is("twice" + of, x.twice(s), -1);
            due.is("clearest" + of, x.clearest(s, 0), -1);
            due.is("waits" + of, x.waits(s, 0, 0), -1);
            due.is("needed" + of, x.needed(s), -1);
            due.is("turned" + of, x.turned(s, true, 0), -1);
            due.is("lead" + of, x.lead(s), -1);
            due.is("walk" + of, x.walk(s, 0), -1);
            due.is("year" + of, x.year(s, 1), -1);
            due.is("tell" + of, x.tell(s, 0, 0, true), -1);
            due.is("ways" + of, x.ways(0, s, 0), -1);
            due.is("look" + of, x.look(0, s), -1);
            due.is("passes at corner " + s, x.passes(0, s == 3 ? 4 : s), -1);
            due.is("uses lane " + s, x.uses(0, s), -1);
            due.is("shortest of corner " + s, x.shortest(s == 3 ? 4 : s), -1);
        }
        due.is("count(-1)", x.count(-1), -1);
        due.is("count(17)", x.count(17), -1);
    }

    private static void best() {
        LostBuyer x = due.of(LINE + "strays = fog;");
        due.is("clearest which", x.clearest(0, 0), 4);
        due.is("clearest how much", x.clearest(0, 1), 65536);
        due.is("clearest 2", x.clearest(0, 2), -1);
        due.is("clearest -1", x.clearest(0, -1), -1);
        due.is("count(4) as ahead", x.count(4), 0);
        due.is("clearest of the most fog", due.of(LINE + "strays = fog - 5;").clearest(0, 0), 9);
        due.is("clearest of none", due.of(LINE + "strays = 0;").clearest(0, 0), 0);
        due.is("clearest of none", due.of(LINE + "strays = 0;").clearest(0, 1), 0);
        x = due.of(LINE + "strays = fog; thickens = fog + 1;");
        due.is("waits(0, 0, 0)", x.waits(0, 0, 0), 0);
        due.is("waits(0, 0, 1)", x.waits(0, 0, 1), 0);
        due.is("waits(0, 2, 0)", x.waits(0, 2, 0), 2);
        due.is("waits(0, 2, 1)", x.waits(0, 2, 1), 32768);
        due.is("waits(0, 30, 0)", x.waits(0, 30, 0), 4);
        due.is("waits(0, 30, 1)", x.waits(0, 30, 1), 65536);
        due.is("waits(0, 31, 0)", x.waits(0, 31, 0), -1);
        due.is("waits(0, -1, 0)", x.waits(0, -1, 0), -1);
        due.is("waits(0, 1, 2)", x.waits(0, 1, 2), -1);
        due.is("count(3) as ahead", x.count(3), 0);
        due.is("waits by the day", due.of(LINE + "strays = day / 7;").waits(0, 30, 0), 28);
        x = due.of(TRIANGLE);
        due.is("turned best", x.turned(0, true, 0), 1);
        due.is("turned best, how much", x.turned(0, true, 1), 42591);
        due.is("turned by none", x.turned(0, false, 0), -2);
        due.is("turned by none, how much", x.turned(0, false, 1), -2);
        due.is("turned 2", x.turned(0, true, 2), -1);
        due.is("turned -1", x.turned(0, true, -1), -1);
        due.is("corner(0, 2) as ahead", x.corner(0, 2), 0);
        x = due.of(TRIANGLE + "post a 1;");
        due.is("may now", x.may(0), 42591);
        // a turned to 0: 16,303; b turned to 1: who COMES by it at once never STRAYED: 12,288 - 81
        due.is("turned by an enemy", x.turned(0, false, 0), 11);
        due.is("turned by an enemy, how much", x.turned(0, false, 1), 12207);
        // s, who sets out at a, has 16,303; t, at b, needs 4 miles: by a 3, again by a 5, at once 5
        x = due.of(TRIANGLE + "strays = if which < 1 then 1 else 4;");
        due.is("may(1) at once by straying", x.may(1), 65536);
        due.is("who", x.who(), 1);
        x.send(1);
        due.is("who of those home", x.who(), 0);
        due.is("who of like ones", due.of(TRIANGLE + "wrong 99;").who(), 0);
        due.is("who of none", due.of(CORNERS).who(), -2);
    }

    private static void maps() {
        LostBuyer x = due.of(TRIANGLE);
        int[] shortest = {2, 3, 0, -2, -1};
        for (int c = 0; c < 5; c++) {
            due.is("shortest(" + c + ")", x.shortest(c), shortest[c]);
        }
        due.is("needed(0)", x.needed(0), 0);
        due.is("needed of no way", x.needed(2), 0);
        due.is("lead(0)", x.lead(0), 0);
        due.is("lead(1) by a", x.lead(1), 0);
        due.is("lead of no way", x.lead(2), -2);
        x.turn(0, 1);
        due.is("lead(0) round by b", x.lead(0), 1);
        due.is("lead(1) round by a", x.lead(1), 1);
        x = due.of("corner a 0; corner b 0; corner c 0; corner d 0; corner h 0; lane a b 1; lane b c 1; lane c d 1; "
                + "lane b d 1; lane d h 9; house h; seeker s 0 a; seeker t 0 h; seeker u 0 c;");
        due.is("needed(0)", x.needed(0), 1 | 16);
        due.is("needed(2)", x.needed(2), 16);
        due.is("needed at the house", x.needed(1), 0);
        // signs show: a to b, b to a, c to b, d to c: b and d must be turned
        due.is("lead(0)", x.lead(0), 2);
        due.is("lead at the house", x.lead(1), 0);
        due.is("shortest(0)", x.shortest(0), 11);
        due.is("comes at the house", x.comes(1), 65536);
        due.is("straight at the house", x.straight(1), 65536);
    }

    private static void lots() {
        LostBuyer x = due.of(TO_AND_FRO);
        due.is("walk(0, 3)", x.walk(0, 3), 43);
        due.is("walk(3, 3)", x.walk(3, 3), 64);
        due.is("walk(3, 0)", x.walk(3, 0), 1);
        due.is("walk(0, 0)", x.walk(0, 0), 0);
        due.is("walk(0, 1)", x.walk(0, 1), 24);
        due.is("walk(0, 2)", x.walk(0, 2), 8);
        due.is("walk(0, 4)", x.walk(0, 4), 0);
        due.is("walk(0, 5)", x.walk(0, 5), -1);
        due.is("walk(0, -1)", x.walk(0, -1), -1);
        x.days(1);
        due.is("walk(0, 3) of the next day", x.walk(0, 3), 10);
        due.is("walk(0, 3) of two quarters", due.of(TO_AND_FRO + "strays = 2;").walk(0, 3), 111);
        due.is("walk(3, 3) of a seed", due.of(TO_AND_FRO + "seed 9999; strays = 1;").walk(3, 3), 1 + 4 + 16 + 32 + 128);
        // the first LOTS of the seeds from 9990 on: 0 2 1 3 2 1 2 3 2 1 3 2 0 1 0 0 3 2 3 0
        x = due.of(LINE + "seed 9990;");
        int[] year = {1, 1, 1, 1, 1, 1, 1, 1, 1, 1, 1, 1, 2, 2, 3, 4, 4, 4, 4, 5};
        for (int s = 1; s <= 20; s++) {
            due.is("year(0, " + s + ")", x.year(0, s), year[s - 1]);
        }
        due.is("year(0, 0)", x.year(0, 0), -1);
        due.is("year(0, 21)", x.year(0, 21), -1);
        due.is("walk(0, 4) by lot", x.walk(0, 4), 1);
        due.is("send by lot", x.send(0), 1);
        due.is("bought by lot", x.count(5), 0);
        due.is("not by the next seed", due.of(LINE + "seed 9991;").walk(0, 4), 0);
    }

    private static void told() {
        LostBuyer x = due.of(TRIANGLE);
        due.is("ways", x.ways(0, 0, 0), 9);
        due.is("ways in cases", x.ways(0, 0, 1), 65536);
        due.is("ways most", x.ways(0, 0, 2), 0);
        due.is("look", x.look(0, 0), 4);
        due.is("ways(0, 0, 3)", x.ways(0, 0, 3), -1);
        due.is("ways(0, 0, -1)", x.ways(0, 0, -1), -1);
        due.is("ways(1, 0, 0)", x.ways(1, 0, 0), -1);
        due.is("ways(-1, 0, 0)", x.ways(-1, 0, 0), -1);
        due.is("look(1, 0)", x.look(1, 0), -1);
        due.is("look(-1, 0)", x.look(-1, 0), -1);
        due.is("tell at 9", x.tell(0, 9, 0, true), -1);
        due.is("tell at -1", x.tell(0, -1, 0, true), -1);
        due.is("tell corner 4", x.tell(0, 1, 4, true), -1);
        due.is("tell corner -1", x.tell(0, 1, -1, true), -1);
        due.is("count(10)", x.count(10), 0);
        due.is("tell", x.tell(0, 1, 1, true), 0);
        due.is("ways(1, 0, 0)", x.ways(1, 0, 0), 8);
        due.is("ways(1, 0, 1)", x.ways(1, 0, 1), 16384);
        due.is("ways(1, 0, 2)", x.ways(1, 0, 2), 1);
        due.is("look(1, 0)", x.look(1, 0), 5);
        due.is("ways(0, 0, 0)", x.ways(0, 0, 0), 9);
        due.is("ways of another", x.ways(1, 2, 0), 1);
        due.is("tell where it ended", x.tell(0, 8, 2, false), 1);
        due.is("ways(2, 0, 2)", x.ways(2, 0, 2), 85);
        due.is("ways(2, 0, 1)", x.ways(2, 0, 1), 81);
        due.is("look(2, 0) of one", x.look(2, 0), 1);
        due.is("tell what is not so", x.tell(0, 0, 0, false), 2);
        due.is("ways(3, 0, 0)", x.ways(3, 0, 0), 0);
        due.is("ways(3, 0, 1)", x.ways(3, 0, 1), 0);
        due.is("ways(3, 0, 2)", x.ways(3, 0, 2), -2);
        due.is("look(3, 0)", x.look(3, 0), -2);
        due.is("undo() of no thing done", x.undo(), false);
        for (int i = 3; i < 20; i++) {
            due.is("tell " + i, x.tell(1, 8, 3, false), i);
        }
        due.is("tell a 21st", x.tell(0, 1, 1, true), -1);
        due.is("count(10)", x.count(10), 20);
        due.is("forget", x.forget(), 20);
        due.is("forget again", x.forget(), 0);
        due.is("tell anew", x.tell(0, 3, 2, true), 0);
        due.is("ways: once at h, there still", x.ways(1, 0, 0), 3);
        // who goes by b STRAYS there (bits 2), who goes by c STRAYED at a (bits 1)
        String fork = "corner b 4; corner c 0; corner h 0; lane a b 1; lane a c 1; lane b h 1; lane c h 1; post c 1; "
                + "house h; seeker s 0 a; strays = dark;";
        x = due.of("corner a 2; " + fork);
        due.is("ways of a fork", x.ways(0, 0, 0), 2);
        due.is("most of a fork, alike", x.ways(0, 0, 2), 1);
        due.is("most of a fork, 3 quarters by b", due.of("corner a 1; " + fork).ways(0, 0, 2), 2);
        due.is("most of a fork, 3 quarters by c", due.of("corner a 3; " + fork).ways(0, 0, 2), 1);
        // alike in CASES: two quarters each way, all of 4 to the 8 over 2 to the 8
        x = due.of(TO_AND_FRO + "strays = 2;");
        due.is("ways of halves", x.ways(0, 0, 0), 256);
        due.is("the least bits", x.ways(0, 0, 2), 0);
        due.is("look where all are alike", x.look(0, 0), 1);
    }

    private static void held() {
        LostBuyer x = due.of(TRIANGLE + "strays = 4; mist 2;");
        due.is("hold(3)", x.hold(3), false);
        due.is("hold(-1)", x.hold(-1), false);
        due.is("restore(0)", x.restore(0), false);
        due.is("restore(3)", x.restore(3), false);
        due.is("restore(-1)", x.restore(-1), false);
        due.is("hold(0)", x.hold(0), true);
        due.is("count(11)", x.count(11), 1);
        x.send(2);
        x.send(0);
        x.turn(0, 1);
        x.fog(true);
        x.days(5);
        x.tell(0, 1, 1, true);
        due.is("hold(2)", x.hold(2), true);
        due.is("hold(2) again", x.hold(2), true);
        due.is("count(11)", x.count(11), 2);
        due.is("count(9) as ahead", x.count(9), 5);
        due.is("restore(1) of nothing", x.restore(1), false);
        due.is("count(9) as ahead", x.count(9), 5);
        due.is("restore(0)", x.restore(0), true);
        int[] first = {4, 3, 3, 0, 2, -2, 0, 7, 0, 0, 1, 2, 2, 0, 8, 8, 10};
        for (int what = 0; what < first.length; what++) {
            due.is("count(" + what + ") restored", x.count(what), first[what]);
        }
        due.is("corner(0, 2) restored", x.corner(0, 2), 0);
        due.is("undo()", x.undo(), false);
        x.days(1);
        due.is("restore(2)", x.restore(2), true);
        int[] second = {4, 3, 3, 5, 3, 0, 6, 2, 0, 0, 1, 2, 2, 4, 8, 8, 10};
        for (int what = 0; what < second.length; what++) {
            due.is("count(" + what + ") restored", x.count(what), second[what]);
        }
        due.is("corner(0, 2) restored", x.corner(0, 2), 1);
        x.days(1);
        due.is("count(3)", x.count(3), 6);
        due.is("restore(2): it stays there", x.restore(2), true);
        due.is("count(3)", x.count(3), 5);
    }

    public static void main(String[] args) {
        newObject();
        feedAndBack();
        syntaxFaults();
        roomFaults();
        otherFaults();
        readInPlace();
        readOften();
        fullTapes();
        whatThereIs();
        laws();
        sending();
        turningAndFog();
        daysAndUndo();
        cases();
        wrongSeekers();
        best();
        maps();
        lots();
        told();
        held();
        due.end();
    }
}
