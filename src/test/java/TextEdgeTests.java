import java.util.ArrayList;
import java.util.List;
import java.util.Set;
import java.util.TreeSet;

/**
 * The sentences on texts that name a boundary: 'Terms', part I, and promises 1 to 5. Each has a
 * method of its own, ahead of which the sentence's words stand.
 */
public final class TextEdgeTests {
    private static final Due due = new Due();

    private static final String[] WORDS = {"corner", "lane", "house", "post", "seeker", "strays", "asks", "fears",
        "thickens", "wrong", "mist", "seed", "if", "then", "else", "sense", "dark", "fog", "long", "day", "lanes",
        "which", "sold", "miles"};
    private static final Set<String> KNOWN = Set.of(WORDS);
    private static final String[] VARS = {"sense", "dark", "fog", "long", "day", "lanes", "which", "sold", "miles"};
    private static final String[] LAWS = {"strays", "asks", "fears", "thickens"};
    private static final String SIGNS = ";=+-*/<()";
    private static final String BLANKS = "\t\n\r ";

    private static final String TOWN = "corner a 1; corner b 2; corner h 3; lane a h 2; lane a b 1; lane b h 5; house h; "
            + "post b 1; seeker s 3 a; seeker t 5 b; strays = fog; thickens = fog + 1; mist 2; seed 77; ";

    private static void fault(String text, int fault, int place) {
        LostBuyer x = new LostBuyer();
        Due.type(x, text);
        due.is("read() of " + text, x.read(), fault);
        due.is("place() of " + text, x.place(), place);
        due.is("count(8) behind read() of " + text, x.count(8), 0);
    }

    private static void taken(String text) {
        fault(text, 0, -1);
    }

    private static void takenOr(boolean taken, String text, int fault, int place) {
        fault(text, taken ? 0 : fault, taken ? -1 : place);
    }

    private static String times(String text, int n) {
        StringBuilder b = new StringBuilder();
        for (int i = 0; i < n; i++) {
            b.append(text.replace('#', (char) ('a' + i)));
        }
        return b.toString();
    }

    // ---- TOKENS

    /** "with blanks (9, 10, 13, 32) between or not" .. "all else, is no TOKEN" */
    private static void everyByte() {
        for (int b = 0; b < 256; b++) {
            char c = (char) b;
            boolean blank = BLANKS.indexOf(c) >= 0;
            boolean letter = c >= 'a' && c <= 'z';
            boolean digit = c >= '0' && c <= '9';
            boolean joins = "+-*/".indexOf(c) >= 0;
            takenOr(blank, "" + c, 1, 0);
            takenOr(blank, "mist 1;" + c, 1, 7);
            takenOr(blank, "mist 1;  " + c + "   ", 1, 9);
            takenOr(letter, "corner " + c + " 1;", 1, blank ? 9 : 7);
            takenOr(blank, "corner" + c + "q 1;", 1, letter ? 0 : 6);
            takenOr(digit, "mist " + c + ";", 1, blank ? 6 : 5);
            takenOr(digit || blank, "wrong 1" + c + ";", 1, c == ';' ? 8 : 7);
            takenOr(digit || blank, "wrong" + c + "1;", 1, letter ? 0 : 5);
            takenOr(c == ';', "mist 1 " + c, 1, blank ? 8 : 7);
            takenOr(c == '=', "asks " + c + " 1;", 1, blank ? 7 : 5);
            takenOr(joins, "asks = 1 " + c + " 2;", 1, blank || c == ';' ? 11 : 9);
            takenOr(c == '<', "asks = if 1 " + c + " 2 then 3 else 4;", 1, joins ? 16 : blank ? 14 : 12);
            takenOr(c == '(', "asks = " + c + " 1);", 1, blank ? 10 : digit ? 9 : 7);
            takenOr(c == ')', "asks = ( 1 " + c + ";", 1, joins || blank ? 12 : 11);
        }
    }

    /** "TOKENS, the longest that can be" */
    private static void longest() {
        taken("corner a1;corner b2;lane a b3;house b;post a1;seeker s1a;asks=if(1)<2then(3)else miles;");
        fault("cornera 1;", 1, 0);
        fault("corner a 1;cornerb 1;", 1, 11);
        fault("corner a b1;", 1, 9);
        fault("corner a 1 1;", 1, 11);
        fault("mistseed 1;", 1, 0);
        fault("asks = fogday;", 1, 7);
        fault("asks = 1then;", 1, 8);
        fault("asks = if 1 < 2 then 3 elsefog;", 1, 23);
        taken("asks = if 1<2then 3else fog;");
        fault("corner a 1; corner s 1; lanes a 1;", 1, 24);
        taken("corner a 1; corner s 1; lane s a 1;");
        taken("corner lan 1; corner lanesa 1; lane lan lanesa 1;");
        for (char blank : BLANKS.toCharArray()) {
            String w = "" + blank;
            taken(times(w, 3) + "corner" + w + "a" + w + w + "1" + w + ";" + w + "house" + w + "a" + w + ";" + times(w, 5));
        }
    }

    /** "NAMES (letters a .. z, 8 at most, none of the words in quotes)" .. "A longer one .. is no TOKEN." */
    private static void names() {
        for (int length = 1; length <= 8; length++) {
            String name = times("z", length);
            taken("corner " + name + " 1; house " + name + "; post " + name + " 1; seeker a 1 " + name + ";");
            taken("corner a 1; corner " + name + " 1; lane " + name + " a 1; lane a " + name + " 1; seeker "
                    + times("y", length) + " 1 a;");
        }
        List<String> none = new ArrayList<>(List.of(WORDS));
        for (int length : new int[] {9, 10, 16, 17, 100}) {
            none.add(times("z", length));
        }
        for (String name : none) {
            fault("corner " + name + " 1;", 1, 7);
            fault("corner a 1; lane " + name + " a 1;", 1, 17);
            fault("corner a 1; lane a " + name + " 1;", 1, 19);
            fault("corner a 1; house " + name + ";", 1, 18);
            fault("corner a 1; post " + name + " 1;", 1, 17);
            fault("corner a 1; seeker " + name + " 1 a;", 1, 19);
            fault("corner a 1; seeker b 1 " + name + ";", 1, 23);
        }
        for (String word : WORDS) {
            String more = word + "s";
            String less = word.substring(0, word.length() - 1);
            takenOr(more.length() <= 8 && !KNOWN.contains(more), "corner " + more + " 1;", 1, 7);
            takenOr(!KNOWN.contains(less), "corner " + less + " 1;", 1, 7);
            taken("corner " + word.substring(1) + " 1;");
        }
        fault("thickenss = 1;", 1, 0);
        fault("thickenz = 1;", 1, 0);
        // unlike in the first letter or the last one alone; one the beginning or the end of the other
        taken(times("corner #zzzzzzz 1;", 7));
        taken(times("corner zzzzzzz# 1;", 7));
        taken("corner z 1; corner zz 1; corner zzz 1; corner zzzz 1; seeker zzzzz 1 z; seeker az 1 z; seeker za 1 z;");
        fault("corner abcdefgh 1; corner abcdefgh 1;", 3, 26);
    }

    /** "INTS (1 to 4 digits)" .. "A longer one .. is no TOKEN." */
    private static void ints() {
        for (int digits = 1; digits <= 4; digits++) {
            String zeros = times("0", digits - 1);
            due.is("DARK of 0", due.of("corner a " + zeros + "0; wrong " + zeros + "0; seed " + zeros + "0;").corner(0, 0), 0);
            due.is("DARK of 9", due.of("corner a " + zeros + "9;").corner(0, 0), 9);
            due.is("MIST of 7", due.of("mist " + zeros + "7;").count(4), 7);
        }
        for (String ten : new String[] {"10", "010", "0010"}) {
            fault("corner a " + ten + ";", 5, 9);
        }
        taken("asks = 9999; seed 9999; strays = 0000;");
        for (String no : new String[] {"00000", "00001", "10000", "99999", "000000000000000000001", "4294967297"}) {
            fault("corner a " + no + ";", 1, 9);
            fault("corner a 1; corner b 1; lane a b " + no + ";", 1, 33);
            fault("corner a 1; post a " + no + ";", 1, 19);
            fault("corner a 1; seeker b " + no + " a;", 1, 21);
            fault("wrong " + no + ";", 1, 6);
            fault("mist " + no + ";", 1, 5);
            fault("seed " + no + ";", 1, 5);
            fault("asks = " + no + ";", 1, 7);
        }
    }

    // ---- which TOKENS go on

    private static final String BEGIN = "corner lane house post seeker strays asks fears thickens wrong mist seed";
    private static final String UNIT = "INT ( sense dark fog long day lanes which sold miles";
    private static final String JOIN = "+ - * /";

    private static void goesOn(String ahead, String with) {
        Set<String> fits = new TreeSet<>(List.of(with.split(" ")));
        List<String> all = new ArrayList<>(List.of(WORDS));
        all.add("q");
        all.add("1");
        for (char sign : SIGNS.toCharArray()) {
            all.add("" + sign);
        }
        for (String token : all) {
            String kind = token.equals("q") ? "NAME" : token.equals("1") ? "INT" : token;
            String text = ahead + " " + token;
            LostBuyer x = new LostBuyer();
            Due.type(x, text);
            boolean here = x.read() == 1 && x.place() == ahead.length() + 1;
            due.is("SYNTAX at the last TOKEN of " + text, here, !fits.contains(kind));
        }
        for (String none : new String[] {".", "A", "abcdefghi", "12345", "" + (char) 0, "" + (char) 225, "" + (char) 255}) {
            fault(ahead + " " + none, 1, ahead.length() + 1);
        }
        takenOr(fits.contains("END"), ahead, 1, ahead.length());
        takenOr(fits.contains("END"), ahead + "  \n", 1, ahead.length() + 3);
    }

    /** "1 SYNTAX: a TOKEN, or what is none, with which no text goes on." .. "the text's end: its length" */
    private static void syntax() {
        goesOn("", BEGIN + " END");
        goesOn("mist 1;", BEGIN + " END");
        String[][] tells = {{"corner", "NAME", "INT"}, {"lane", "NAME", "NAME", "INT"}, {"house", "NAME"},
            {"post", "NAME", "INT"}, {"seeker", "NAME", "INT", "NAME"}, {"wrong", "INT"}, {"mist", "INT"},
            {"seed", "INT"}};
        for (String[] tell : tells) {
            String ahead = tell[0];
            for (int i = 1; i < tell.length; i++) {
                goesOn(ahead, tell[i]);
                ahead = ahead + (tell[i].equals("NAME") ? " q" : " 1");
            }
            goesOn(ahead, ";");
        }
        for (String law : LAWS) {
            goesOn(law, "=");
            goesOn(law + " =", "if " + UNIT);
            goesOn(law + " = 1", JOIN + " ;");
            goesOn(law + " = 1;", BEGIN + " END");
        }
        goesOn("asks = if", UNIT);
        goesOn("asks = if 1", JOIN + " <");
        goesOn("asks = if 1 <", UNIT);
        goesOn("asks = if 1 < 2", JOIN + " then");
        goesOn("asks = if 1 < 2 then", UNIT);
        goesOn("asks = if 1 < 2 then 3", JOIN + " else");
        goesOn("asks = if 1 < 2 then 3 else", "if " + UNIT);
        goesOn("asks = if 1 < 2 then 3 else 4", JOIN + " ;");
        goesOn("asks = if 1 < 2 then 3 else if", UNIT);
        goesOn("asks = if 1 < 2 then 3 else if 4", JOIN + " <");
        for (String var : VARS) {
            goesOn("fears = " + var, JOIN + " ;");
        }
        for (String join : JOIN.split(" ")) {
            goesOn("asks = 1 " + join, UNIT);
            goesOn("asks = 1 " + join + " 2", JOIN + " ;");
            goesOn("asks = (1 " + join, UNIT);
        }
        goesOn("asks = (", UNIT);
        goesOn("asks = (1", JOIN + " )");
        goesOn("asks = (1)", JOIN + " ;");
        goesOn("asks = ((1", JOIN + " )");
        goesOn("asks = ((1)", JOIN + " )");
        goesOn("asks = if (1", JOIN + " )");
        goesOn("asks = if (1)", JOIN + " <");
        goesOn("asks = if 1 < (2)", JOIN + " then");
        goesOn("asks = if 1 < 2 then (3)", JOIN + " else");
    }

    // ---- limits of a text

    /** "CORNERS, 7 at most", "LANES, 10", "SEEKERS, 5", "POSTS, 7"; "one more of a sort than told (at its first TOKEN)" */
    private static void moreOfASort() {
        taken(times("corner # 1;", 7));
        fault(times("corner # 1;", 8), 2, 77);
        fault(times("corner # 1;", 7) + "  corner a 1;", 2, 79);
        String two = "corner x 1;corner y 1;";
        taken(two + times("lane x y 1;", 10));
        fault(two + times("lane x y 1;", 11), 2, 22 + 110);
        fault(two + times("lane x y 1;", 10) + "\nlane x x 0;", 2, 22 + 111);
        taken(two + times("seeker # 1 x;", 5));
        fault(two + times("seeker # 1 x;", 6), 2, 22 + 65);
        fault(two + times("seeker # 1 x;", 5) + " seeker a 10 q;", 2, 22 + 66);
        taken(two + times("post x 1;", 7));
        fault(two + times("post x 1;", 8), 2, 22 + 63);
        fault(two + times("post x 1;post y 1;", 4), 2, 22 + 63);
        String full = times("corner # 1;", 7) + times("lane a b 1;", 10) + times("seeker #s 1 a;", 5) + times("post a 1;", 7);
        LostBuyer x = due.of(full);
        due.is("CORNERS of a full text", x.count(0), 7);
        due.is("LANES of a full text", x.count(1), 10);
        due.is("SEEKERS of a full text", x.count(2), 5);
        for (String more : new String[] {"corner x 1;", "lane a c 1;", "seeker x 1 a;", "post b 1;"}) {
            fault(full + more, 2, full.length());
            // it is one more by its first TOKEN alone
            fault(full + more.split(" ")[0], 2, full.length());
            fault(full + more.split(" ")[0] + " ;", 2, full.length());
        }
        // of these no number is told: there can be any
        taken(full + times("house a;", 9) + times("mist 1;", 9) + times("wrong 1;", 9) + times("seed 1;", 9)
                + times("strays=1;asks=1;fears=1;thickens=1;", 9));
    }

    private static String pad(int tokens) {
        int fours = tokens % 3;
        return times("asks=1;", fours) + times("mist 1;", (tokens - 4 * fours) / 3);
    }

    /** "2 ROOM: a 401st TOKEN" .. "of one place the least" */
    private static void tokens() {
        taken(pad(399));
        taken(pad(400));
        fault(pad(401), 2, pad(401).length() - 1);
        taken(pad(400) + "    \n");
        for (String begin : BEGIN.split(" ")) {
            fault(pad(400) + begin, 2, pad(400).length());
            fault(pad(400) + "  " + begin + " 1", 2, pad(400).length() + 2);
            fault(pad(399) + begin, 1, pad(399).length() + begin.length());
        }
        for (String no : new String[] {"q", "1", ";", "=", "if", "fog", "(", ".", "abcdefghi", "12345"}) {
            fault(pad(400) + no, 1, pad(400).length());
        }
        // what stands ahead, a TOKEN that goes on, one that does not
        String[][] last = {{"corner", "q", "1"}, {"lane", "q", "1"}, {"house", "q", ";"}, {"post", "q", "="},
            {"seeker", "q", "1"}, {"wrong", "1", "q"}, {"mist", "9", "="}, {"seed", "9", "("}, {"strays", "=", "1"},
            {"corner q", "1", "q"}, {"corner q 1", ";", "1"}, {"lane q", "q", "1"}, {"lane q q", "1", ";"},
            {"lane q q 1", ";", "q"}, {"house q", ";", "1"}, {"post q", "1", ";"}, {"post q 1", ";", "q"},
            {"seeker q", "1", "q"}, {"seeker q 1", "q", "1"}, {"seeker q 1 q", ";", "1"}, {"wrong 1", ";", "q"},
            {"asks =", "1", "q"}, {"asks =", "fog", ";"}, {"asks =", "(", ")"}, {"asks =", "if", "then"},
            {"asks = if", "1", "if"}, {"asks = if 1", "<", "then"}, {"asks = if 1 <", "miles", "<"},
            {"asks = if 1 < 2", "then", "else"}, {"asks = if 1 < 2 then", "(", "if"},
            {"asks = if 1 < 2 then 3", "else", ";"}, {"asks = if 1 < 2 then 3 else", "if", ";"},
            {"asks = 1", "+", "1"}, {"asks = 1", "-", "<"}, {"asks = 1", "*", ")"}, {"asks = 1", "/", "="},
            {"asks = 1", ";", "if"}, {"asks = ( 1", ")", ";"}};
        for (String[] l : last) {
            lastToken(l[0], l[1], l[2]);
        }
        fault(pad(396) + "asks = )" + times(" 1", 20), 1, pad(396).length() + 7);
        taken("asks=" + times("1+", 198) + "1;");
        fault("asks=" + times("1+", 199) + "1;", 2, 5 + 398);
        taken("asks=" + times("(1)*", 99) + "1;");
        fault("asks=" + times("(1)*", 99) + "1;mist 1;", 2, 5 + 396 + 2);
    }

    private static void lastToken(String tell, String goesOn, String not) {
        int many = tell.split(" ").length;
        String ahead = pad(400 - many) + tell + " ";
        fault(ahead + goesOn, 2, ahead.length());
        fault(ahead + not, 1, ahead.length());
        fault(ahead, 1, ahead.length());
        String less = pad(399 - many) + tell + " " + goesOn;
        if (goesOn.equals(";")) {
            LostBuyer x = new LostBuyer();
            Due.type(x, less);
            int fault = x.read();
            due.is("400 TOKENS are neither SYNTAX nor ROOM: .. " + tell + ";", fault == 1 || fault == 2, false);
        } else {
            fault(less, 1, less.length());
        }
    }

    /** "2 ROOM: .. a 5th if of a LAW (at it)" */
    private static void ifs() {
        String one = "if 1 < 2 then 3 else ";
        for (String law : LAWS) {
            int from = law.length() + 3;
            for (int many = 0; many <= 4; many++) {
                taken(law + " = " + times(one, many) + "5;");
            }
            fault(law + " = " + times(one, 5) + "5;", 2, from + 84);
            fault(law + " = " + times(one, 6) + "5;", 2, from + 84);
            fault(law + " = " + times(one, 4) + "if", 2, from + 84);
            fault(law + " = " + times(one, 4) + "then", 1, from + 84);
            // each LAW has four of its own
            taken(law + " = " + times(one, 4) + "5;" + law + " = " + times(one, 4) + "5;asks = " + times(one, 4) + "5;");
            String ahead = "fears = " + times(one, 4) + "5;" + law + " = ";
            fault(ahead + times(one, 5) + "5;", 2, ahead.length() + 84);
        }
    }

    /** "2 ROOM: .. a 7th ( within one another (at it)" */
    private static void brackets() {
        String six = "((((((1))))))";
        String seven = "(((((((1)))))))";
        taken("asks = " + six + ";");
        fault("asks = " + seven + ";", 2, 13);
        fault("asks = (((((((", 2, 13);
        fault("asks = ((((((", 1, 13);
        fault("asks = (((((()", 1, 13);
        fault("asks = ((((((((1", 2, 13);
        // those that are closed do not count
        taken("asks = (1)+(1)+(1)+(1)+(1)+(1)+(1)+(1);");
        taken("asks = " + six + "+" + six + "*" + six + ";");
        taken("asks = (((((" + "(1)+(2)*(3)" + ")))));");
        fault("asks = (((((" + "(1)+(2)*((3))" + ")))));", 2, 21);
        taken("asks = ((((" + "(1)+(2)*((3))" + "))));");
        taken("asks = if " + six + " < " + six + " then " + six + " else " + six + ";");
        fault("asks = if " + seven, 2, 16);
        fault("asks = if 1 < " + seven, 2, 20);
        fault("asks = if 1 < 2 then " + seven, 2, 27);
        fault("asks = if 1 < 2 then 3 else " + seven, 2, 34);
        fault("asks = if 1 < 2 then 3 else 1 + 2 * " + seven, 2, 42);
        for (String law : LAWS) {
            taken(law + " = " + six + ";" + law + " = " + six + ";");
            fault(law + " = " + seven + ";", 2, law.length() + 9);
        }
    }

    // ---- FAULTS of a text that has the shape of one

    private static void numbers(String ahead, int least, int most, String behind) {
        if (least > 0) {
            fault(ahead + (least - 1) + behind, 5, ahead.length());
        }
        taken(ahead + least + behind);
        taken(ahead + most + behind);
        if (most < 9999) {
            fault(ahead + (most + 1) + behind, 5, ahead.length());
            fault(ahead + "  " + (most + 1) + behind, 5, ahead.length() + 2);
            fault(ahead + "9999" + behind, 5, ahead.length());
        }
    }

    /** "5 WRONG (at the INT): a number not as told above; of a POST: not 0 .. 9." */
    private static void wrongNumbers() {
        numbers("corner a ", 0, 9, ";");
        numbers("corner a 1; corner b 1; lane a b ", 1, 9, ";");
        numbers("corner a 1; seeker b ", 0, 9, " a;");
        numbers("corner a 1; post a ", 0, 9, ";");
        numbers("wrong ", 0, 99, ";");
        numbers("mist ", 0, 9, ";");
        numbers("seed ", 0, 9999, ";");
        for (int n : new int[] {0, 9}) {
            LostBuyer x = due.of("corner a " + n + "; seeker s " + n + " a; mist " + n + ";");
            due.is("DARK " + n, x.corner(0, 0), n);
            due.is("SENSE " + n, x.seeker(0, 0), n);
            due.is("MIST " + n, x.count(4), n);
        }
        for (int n : new int[] {1, 9}) {
            due.is("LONG " + n, due.of("corner a 1; corner b 1; lane a b " + n + ";").lane(0, 2), n);
        }
        // INTS of a LAW are held to nothing
        taken("strays = 9999; asks = 9999; fears = 9999; thickens = 9999;");
    }

    /** "3 TWICE: a NAME told already (of CORNERS and SEEKERS together); (at the second NAME) a LANE from a CORNER to itself." */
    private static void toldTwice() {
        fault("corner a 1; corner a 2;", 3, 19);
        fault("corner a 1; corner b 1; corner a 2;", 3, 31);
        fault("corner a 1; seeker a 1 a;", 3, 19);
        fault("corner a 1; seeker b 1 a; seeker b 2 a;", 3, 33);
        fault("corner a 1; seeker b 1 a; corner b 1;", 3, 33);
        fault(times("corner # 1;", 6) + "corner f 1;", 3, 73);
        fault("corner x 1;" + times("seeker # 1 x;", 4) + "seeker d 1 x;", 3, 11 + 52 + 7);
        fault("corner x 1;" + times("seeker # 1 x;", 5) + "corner e 1;", 3, 11 + 65 + 7);
        fault("corner a 1; lane a a 1;", 3, 19);
        fault("corner a 1; corner b 1; lane b b 1;", 3, 31);
        // only CORNERS and SEEKERS are told by a NAME
        taken("corner a 1; corner b 1; lane a b 1; lane a b 1; lane b a 1; post a 1; post a 1; house a; house a; "
                + "asks = 1; asks = 1; seeker c 1 a; seeker d 1 a;");
    }

    /** "4 NAME: (at it) no such CORNER told ahead" */
    private static void noSuchCorner() {
        fault("lane a b 1;", 4, 5);
        fault("corner b 1; lane a b 1;", 4, 17);
        fault("corner a 1; lane a b 1;", 4, 19);
        fault("lane a a 1;", 4, 5);
        fault("house a;", 4, 6);
        fault("post a 1;", 4, 5);
        fault("seeker s 1 a;", 4, 11);
        fault("seeker a 1 a;", 4, 11);
        // told behind is not told ahead
        fault("lane a b 1; corner a 1; corner b 1;", 4, 5);
        fault("corner a 1; lane a b 1; corner b 1;", 4, 19);
        fault("corner b 1; lane a b 1; corner a 1;", 4, 17);
        fault("house a; corner a 1;", 4, 6);
        fault("post a 1; corner a 1;", 4, 5);
        fault("seeker s 1 a; corner a 1;", 4, 11);
        // a SEEKER's NAME is no CORNER's
        fault("corner a 1; seeker s 1 a; house s;", 4, 32);
        fault("corner a 1; seeker s 1 a; post s 1;", 4, 31);
        fault("corner a 1; seeker s 1 a; lane s a 1;", 4, 31);
        fault("corner a 1; seeker s 1 a; lane a s 1;", 4, 33);
        fault("corner a 1; seeker s 1 a; lane s s 1;", 4, 31);
        fault("corner a 1; seeker s 1 a; seeker t 1 s;", 4, 37);
    }

    /** "FAULTS of a text, the first by its place (a byte; the text's end: its length)" .. "If there is none, likewise" */
    private static void firstFault() {
        fault("corner a 1; corner a 1; house z; mist 10;", 3, 19);
        fault("corner a 1; corner a 1; mist 10; house z;", 3, 19);
        fault("house z; corner a 1; corner a 1; mist 10;", 4, 6);
        fault("house z; mist 10; corner a 1; corner a 1;", 4, 6);
        fault("mist 10; house z; corner a 1; corner a 1;", 5, 5);
        fault("mist 10; corner a 1; corner a 1; house z;", 5, 5);
        fault("corner a 1; corner a 10;", 3, 19);
        fault("corner a 10; corner a 1;", 5, 9);
        fault("corner a 1; seeker a 10 z;", 3, 19);
        fault("corner a 1; seeker b 10 z;", 5, 21);
        fault("corner a 1; seeker b 1 z;", 4, 23);
        fault("corner a 1; lane z z 0;", 4, 17);
        fault("corner a 1; lane a a 0;", 3, 19);
        fault("corner a 1; lane a z 0;", 4, 19);
        fault("corner a 1; post z 10;", 4, 17);
        // SYNTAX and ROOM count ahead of the others, wherever they stand
        String[] soft = {"corner a 1; corner a 1;", "house z;", "mist 10;"};
        for (String first : soft) {
            fault(first + "x", 1, first.length());
            fault(first + "mist", 1, first.length() + 4);
            fault(first + "mist ", 1, first.length() + 5);
            fault(first + "asks = (((((((", 2, first.length() + 13);
            fault(first + times("post z 1;", 8), 2, first.length() + 63);
            fault("x" + first, 1, 0);
        }
        // of SYNTAX and ROOM the first by its place
        fault(times("corner # 1;", 8) + "x", 2, 77);
        fault(times("corner # 1;", 3) + "x" + times("corner # 1;", 8), 1, 33);
        fault("asks = (((((((x", 2, 13);
        fault("asks = x(((((((", 1, 7);
        fault("x y", 1, 0);
        fault(times("corner # 1;", 8) + times("post a 1;", 8), 2, 77);
        fault("corner x 1;" + times("post x 1;", 8) + times("corner # 1;", 8), 2, 11 + 63);
    }

    // ---- what a text tells

    /** "numbered each from 0 on as they stand" */
    private static void numbered() {
        LostBuyer x = due.of("corner c 3; seeker z 7 c; corner a 1; lane c a 4; seeker y 8 a; corner b 2; lane b a 5; "
                + "seeker x 9 b; lane c b 6;");
        int[] dark = {3, 1, 2};
        int[][] lanes = {{0, 1, 4}, {2, 1, 5}, {0, 2, 6}};
        int[][] seekers = {{7, 0}, {8, 1}, {9, 2}};
        for (int i = 0; i < 3; i++) {
            due.is("DARK of " + i, x.corner(i, 0), dark[i]);
            for (int what = 0; what < 3; what++) {
                due.is("lane(" + i + ", " + what + ")", x.lane(i, what), lanes[i][what]);
            }
            due.is("SENSE of " + i, x.seeker(i, 0), seekers[i][0]);
            due.is("CORNER of " + i, x.seeker(i, 1), seekers[i][1]);
        }
    }

    /** "HOUSE: .. (the first; the last one)", "POSTS .. (0: the first; the last one of each CORNER)", "if not told; the last one" */
    private static void notTold() {
        String two = "corner a 0; corner b 0; lane a b 1; lane a b 2; lane a b 3; seeker s 0 b; seeker t 0 a; ";
        LostBuyer x = due.of(two);
        due.is("HOUSE not told", x.count(12), 0);
        due.is("POST not told", x.corner(1, 2), 0);
        due.is("POST not told: turned to 0 already", x.turn(1, 0), false);
        due.is("STRAYS not told", x.strays(0, 1), 1);
        due.is("ASKS not told", x.tells(0, 99, 0), 99);
        due.is("FEARS not told", x.tells(0, 98, 1), 98);
        due.is("MIST not told", x.count(4), 0);
        // from b: by LANE 0 in 3 quarters, by LANE 1, a mile more, in 1; that is WRONG 1
        due.is("WRONG not told", x.may(0), 16384);
        due.is("WRONG 1 told", due.of(two + "wrong 1;").may(0), 16384);
        due.is("WRONG 2 told", due.of(two + "wrong 2;").may(0), 0);
        x.fog(true);
        due.is("THICKENS not told: FOG stays", x.fogIn(1), 1);
        due.is("SEED not told", due.of(two).walk(0, 3), due.of(two + "seed 0;").walk(0, 3));
        due.is("HOUSE told", due.of(two + "house b;").count(12), 1);
        due.is("HOUSE, the last one", due.of(two + "house b; house a;").count(12), 0);
        due.is("HOUSE told ahead of other CORNERS", due.of("corner a 0; house a; corner b 0;").count(12), 0);
        x = due.of(two + "post a 2; post b 1; post a 1; post b 2;");
        due.is("POST of a, the last one", x.corner(0, 2), 1);
        due.is("POST of b, the last one", x.corner(1, 2), 2);
        due.is("POST 0 behind another", due.of(two + "post a 2; post a 0;").corner(0, 2), 0);
        due.is("STRAYS, the last one", due.of(two + "strays = 4; strays = 2;").strays(0, 1), 2);
        due.is("ASKS, the last one", due.of(two + "asks = 4; fears = 5; asks = 2;").tells(0, 9, 0), 2);
        due.is("FEARS, the last one", due.of(two + "fears = 4; asks = 5; fears = 2;").tells(0, 9, 1), 2);
        due.is("THICKENS, the last one", due.of(two + "thickens = 4; thickens = 2;").fogIn(1), 2);
        due.is("WRONG, the last one", due.of(two + "wrong 9; wrong 1;").may(0), 16384);
        due.is("MIST, the last one", due.of(two + "mist 9; mist 1;").count(4), 1);
        due.is("SEED, the last one", due.of(two + "seed 9999; seed 5;").walk(0, 3), due.of(two + "seed 5;").walk(0, 3));
    }

    private static void lived(LostBuyer x) {
        Due.type(x, TOWN);
        x.read();
        x.fog(true);
        x.turn(0, 1);
        x.days(2);
        x.send(1);
        x.call(1);
        x.tell(0, 1, 1, true);
        x.tell(1, 8, 2, false);
        for (int slot = 0; slot < 3; slot++) {
            x.hold(slot);
        }
        x.days(1);
        x.send(0);
    }

    /** "A text with a FAULT changes nothing but the tape" */
    private static void faultChangesNothing() {
        String[] wrong = {"x", "corner", "corner k 1; corner l 2; seeker m 1 k; mist 9; strays = 4; asks = (((((((",
            times("mist 9;", 133) + "mist 9;", times("corner # 1;", 8), "corner k 1; corner k 2;",
            "corner k 1; lane k k 2;", "corner k 7; house l;", "corner k 7; post k 4; strays = 4; wrong 0; seed 3; mist 10;",
            "corner k 10;"};
        int[] faults = {1, 1, 2, 2, 2, 3, 3, 4, 5, 5};
        for (int i = 0; i < wrong.length; i++) {
            LostBuyer x = Twins.made(TextEdgeTests::lived);
            Due.type(x, wrong[i]);
            due.is("read() of " + wrong[i], x.read(), faults[i]);
            due.is("the tape then", x.count(8), 0);
            Twins.alike(due, "behind " + wrong[i], x, Twins.made(TextEdgeTests::lived));
        }
        // three FAULTS one behind another, and a text then
        LostBuyer x = Twins.made(TextEdgeTests::lived);
        for (int i = 0; i < 3; i++) {
            Due.type(x, wrong[8 - i]);
            x.read();
        }
        Due.type(x, TOWN);
        due.is("read() behind FAULTS", x.read(), 0);
        Twins.alike(due, "behind FAULTS", x, due.of(TOWN));
    }

    /** "else it is in place of the one ahead: day 0, nothing sold, everybody at home; nothing can be undone, .." */
    private static void inPlace() {
        LostBuyer x = Twins.made(TextEdgeTests::lived);
        due.is("the day ahead", x.count(3), 3);
        due.is("TOLD ahead", x.count(10), 2);
        due.is("SLOTS ahead", x.count(11), 3);
        due.is("undone ahead", x.count(9), 7);
        due.is("HOME ahead", x.count(7), 2);
        Due.type(x, TOWN);
        due.is("read()", x.read(), 0);
        int[] begun = {3, 3, 2, 0, 2, -2, 0, 3, 0, 0, 0, 0, 2, 0, 8, 0, 6};
        for (int what = 0; what < begun.length; what++) {
            due.is("count(" + what + ") of a text in place", x.count(what), begun[what]);
        }
        due.is("a SIGN is as told", x.corner(0, 2), 0);
        due.is("undo()", x.undo(), false);
        for (int slot = 0; slot < 3; slot++) {
            due.is("restore(" + slot + ")", x.restore(slot), false);
        }
        due.is("forget()", x.forget(), 0);
        Twins.alike(due, "in place", x, due.of(TOWN));
        // sold, then another text
        String sells = "corner a 0; corner h 0; lane a h 1; house h; wrong 0; strays = 4; seeker s 0 a; ";
        x = due.of(sells);
        x.send(0);
        due.is("sold", x.count(5), 0);
        Due.type(x, sells);
        x.read();
        Twins.alike(due, "behind sold", x, due.of(sells));
        // an empty text is one, too
        x = Twins.made(TextEdgeTests::lived);
        due.is("read() of an empty tape", x.read(), 0);
        Twins.alike(due, "an empty text", x, new LostBuyer());
        due.is("CORNERS of an empty text", x.count(0), 0);
    }

    /** "it is in place of the one ahead": nothing of that is left, of however many there were. */
    private static void nothingLeft() {
        String much = times("corner # 9;", 7) + times("lane a b 9;lane c d 9;lane e f 9;", 3) + "lane g a 9;"
                + "post a 9;post b 9;post c 9;post d 9;post e 9;post f 9;post g 9;" + times("seeker #s 9 g;", 5)
                + "house g;strays=4;asks=5;fears=6;thickens=7;wrong 99;mist 9;seed 9999;";
        String[] little = {"corner k 1; corner l 2; corner m 3; lane k l 4; seeker n 5 k; ", "corner a 1; seeker b 2 a;", "",
            "corner g 1; corner f 2; corner e 3; lane g f 1; lane f e 2; lane e g 3; seeker b 2 g; seeker c 3 f; wrong 0; house e;"};
        for (String text : little) {
            for (int times = 1; times <= 4; times++) {
                LostBuyer x = new LostBuyer();
                for (int i = 0; i < times; i++) {
                    Due.type(x, much);
                    due.is("read() of much", x.read(), 0);
                }
                Due.type(x, text);
                due.is("read() of little", x.read(), 0);
                Twins.alike(due, "behind " + times + " texts: " + text, x, due.of(text));
            }
        }
        LostBuyer x = new LostBuyer();
        for (int i = 0; i < 5; i++) {
            // POSTS, TOKENS and LAWS are counted anew in each text
            Due.type(x, "corner x 1;" + times("post x 1;", 7));
            due.is("read() of 7 POSTS", x.read(), 0);
            Due.type(x, "corner x 1; seeker y 1 x; asks=" + times("miles-1+", 96) + "1+1;");
            due.is("read() of 399 TOKENS", x.read(), 0);
            due.is("a LAW of many TOKENS", x.tells(0, 1, 0), 2);
            // what was a TOKEN at that place in the text ahead is none in this one
            Due.type(x, "corner abcdefgh 1234;");
            due.is("read() of 8 letters, 4 digits", x.read(), 5);
            Due.type(x, "corner abcdefghi 1234;");
            due.is("read() of 9 letters", x.read(), 1);
            due.is("place() of 9 letters", x.place(), 7);
            Due.type(x, "corner abcdefgh 12345;");
            due.is("read() of 5 digits", x.read(), 1);
            due.is("place() of 5 digits", x.place(), 16);
            Due.type(x, "corner abcdefgh .;");
            due.is("read() of no TOKEN", x.read(), 1);
            due.is("place() of no TOKEN", x.place(), 16);
        }
    }

    // ---- promises 1 to 5

    /** Promise 1: "No CORNERS, no SEEKERS." */
    private static void newObject() {
        LostBuyer x = new LostBuyer();
        int[] want = {0, 0, 0, 0, 0, -2, 0, 0, 0, 0, 0, 0, -2, 0, 0, 0, 0};
        for (int what = 0; what < want.length; what++) {
            due.is("count(" + what + ") of a new object", x.count(what), want[what]);
        }
        due.is("corner(0, 0)", x.corner(0, 0), -1);
        due.is("seeker(0, 0)", x.seeker(0, 0), -1);
        due.is("lane(0, 0)", x.lane(0, 0), -1);
        due.is("place()", x.place(), -1);
        due.is("undo()", x.undo(), false);
        due.is("restore(0)", x.restore(0), false);
        due.is("back(0)", x.back(0), 0);
        due.is("back(1)", x.back(1), -1);
        Twins.alike(due, "two new objects", x, new LostBuyer());
    }

    private static int feed(LostBuyer x, int sign) {
        int four = sign << 24 | sign << 16 | sign << 8 | sign;
        return x.feed(four, four, four, four, four);
    }

    private static void fill(LostBuyer x, int bytes) {
        Due.type(x, "mist 7;" + times(" ", bytes - 7));
    }

    /** Promise 2: "Twenty bytes, the highest of a first, come behind the tape: how many it has." */
    private static void feedOrder() {
        for (int at = 0; at < 40; at++) {
            LostBuyer x = new LostBuyer();
            int[] five = {0x20202020, 0x20202020, 0x20202020, 0x20202020, 0x20202020};
            int[] with = five.clone();
            // a blank and 33 are unlike in one bit: 33 is no TOKEN
            with[at % 20 / 4] ^= 1 << 24 - 8 * (at % 4);
            int[] first = at < 20 ? with : five;
            int[] second = at < 20 ? five : with;
            due.is("feed", x.feed(first[0], first[1], first[2], first[3], first[4]), 20);
            due.is("feed", x.feed(second[0], second[1], second[2], second[3], second[4]), 40);
            due.is("read() of byte " + at, x.read(), 1);
            due.is("place() of byte " + at, x.place(), at);
        }
    }

    /** Promise 2: "NONE, and nothing comes, if it would have more than 2,000." */
    private static void feedFull() {
        for (int ahead : new int[] {7, 1960, 1979, 1980}) {
            LostBuyer x = Twins.made(y -> fill(y, ahead));
            due.is("feed behind " + ahead, feed(x, ' '), ahead + 20);
            due.is("count(8)", x.count(8), ahead + 20);
        }
        for (int ahead : new int[] {1981, 1982, 1999, 2000}) {
            LostBuyer x = Twins.made(y -> fill(y, ahead));
            for (int i = 0; i < 3; i++) {
                due.is("feed behind " + ahead, feed(x, '.'), -1);
                due.is("count(8)", x.count(8), ahead);
            }
            due.is("read()", x.read(), 0);
            due.is("MIST", x.count(4), 7);
            Twins.unchanged(due, "feed behind " + ahead, y -> fill(y, ahead), y -> feed(y, '.'));
        }
        LostBuyer x = new LostBuyer();
        for (int i = 1; i <= 100; i++) {
            due.is("feed " + i, feed(x, ' '), 20 * i);
        }
        due.is("feed 101", feed(x, '.'), -1);
        due.is("back(20)", x.back(20), 1980);
        due.is("feed again", feed(x, ' '), 2000);
        due.is("read() of 2,000 blanks", x.read(), 0);
        due.is("feed behind read()", feed(x, ' '), 20);
        // the last byte of a full tape, and its end
        fault(times(" ", 1999) + ".", 1, 1999);
        fault(times(" ", 1994) + "mist 1", 1, 2000);
        taken(times(" ", 1993) + "mist 1;");
        fault(times(" ", 1992) + "mist 10;", 5, 1997);
        fault(times("z", 2000), 1, 0);
        fault(times("1", 2000), 1, 0);
        // a tape that ends within a word
        for (String word : WORDS) {
            for (int length = 1; length <= word.length(); length++) {
                String blanks = times(" ", 2000 - length);
                String piece = word.substring(0, length);
                boolean begins = List.of(BEGIN.split(" ")).contains(piece);
                fault(blanks + piece, 1, begins ? 2000 : 2000 - length);
            }
        }
    }

    /** Promise 3: "The last n bytes of the tape go: how many it has. NONE, and nothing goes, if it has not so many, or n is below 0." */
    private static void backEdges() {
        for (int ahead : new int[] {20, 40, 2000}) {
            LostBuyer x = Twins.made(y -> fill(y, ahead));
            for (int no : new int[] {-1, -20, Integer.MIN_VALUE, ahead + 1, 2001, Integer.MAX_VALUE}) {
                due.is("back(" + no + ") of " + ahead, x.back(no), -1);
                due.is("count(8)", x.count(8), ahead);
                Twins.unchanged(due, "back(" + no + ") of " + ahead, y -> fill(y, ahead), y -> y.back(no));
            }
            due.is("back(0)", x.back(0), ahead);
            due.is("back(1)", x.back(1), ahead - 1);
            due.is("back(all but one)", x.back(ahead - 2), 1);
            due.is("back(2) of 1", x.back(2), -1);
            due.is("back(1) of 1", x.back(1), 0);
            due.is("back(1) of 0", x.back(1), -1);
            due.is("back(0) of 0", x.back(0), 0);
            x = Twins.made(y -> fill(y, ahead));
            due.is("back(all)", x.back(ahead), 0);
        }
        LostBuyer x = new LostBuyer();
        x.feed(0x6d697374, 0x20373b6d, 0x69737420, 0x383b6d69, 0x73742039);
        due.is("'mist 7;mist 8;mist 9' without its last 6", x.back(6), 14);
        due.is("read()", x.read(), 0);
        due.is("MIST 8 is the last one", x.count(4), 8);
        x.feed(0x6d697374, 0x20373b6d, 0x69737420, 0x383b6d69, 0x73742039);
        due.is("without its last 7", x.back(7), 13);
        due.is("read()", x.read(), 1);
        due.is("place(): the end", x.place(), 13);
    }

    /** Promise 4: "The tape, which is empty then, is read: 0, or the number of its FAULT." Promise 5: "NONE without." */
    private static void readAndPlace() {
        LostBuyer x = new LostBuyer();
        due.is("place() ahead of any read()", x.place(), -1);
        String[] texts = {"mist 1;", "mist", "mist 2;", "mist 1; wrong 100;", "house a;", "", "corner a 1; corner a 1;",
            "corner b 1;", "asks = (((((((", " "};
        int[] faults = {0, 1, 0, 5, 4, 0, 3, 0, 2, 0};
        int[] places = {-1, 4, -1, 14, 6, -1, 19, -1, 13, -1};
        for (int i = 0; i < texts.length; i++) {
            Due.type(x, texts[i]);
            due.is("count(8) ahead of read()", x.count(8), texts[i].length());
            due.is("place() is of the latest read() still", x.place(), i == 0 ? -1 : places[i - 1]);
            due.is("read() of " + texts[i], x.read(), faults[i]);
            due.is("place() of " + texts[i], x.place(), places[i]);
            due.is("count(8) then", x.count(8), 0);
            x.fog(true);
            x.undo();
            x.back(1);
            due.is("place() of " + texts[i] + ", asked again", x.place(), places[i]);
        }
    }

    public static void main(String[] args) {
        everyByte();
        longest();
        names();
        ints();
        syntax();
        moreOfASort();
        tokens();
        ifs();
        brackets();
        wrongNumbers();
        toldTwice();
        noSuchCorner();
        firstFault();
        numbered();
        notTold();
        faultChangesNothing();
        inPlace();
        nothingLeft();
        newObject();
        feedOrder();
        feedFull();
        backEdges();
        readAndPlace();
        due.end();
    }
}
