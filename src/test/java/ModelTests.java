import java.nio.charset.StandardCharsets;
import java.util.ArrayList;
import java.util.Collections;
import java.util.List;
import java.util.Random;

/** Random texts, right and wrong, and random calls: the class answers as the slow model does. */
public final class ModelTests {
    private static final Due due = new Due();
    private static final String[] NAMES = {"a", "b", "c", "d", "e", "f", "g", "gate", "fork", "pond", "hall", "mill",
        "ann", "bob", "cy", "dee", "eve", "abcdefgh", "abcdefg", "zz"};
    private static final String[] VARS = {"sense", "dark", "fog", "long", "day", "lanes", "which", "sold", "miles"};
    private static final int TEXTS = 220;
    private static final int CALLS = 90;
    private static final int WRONG_TEXTS = 4000;

    private final Random random;
    private final String from;
    private LostBuyer x = new LostBuyer();
    private Model m = new Model();

    private ModelTests(long seed) {
        random = new Random(seed);
        from = "[" + seed + "] ";
    }

    private int up(int n) {
        return random.nextInt(n);
    }

    private String unit(int depth) {
        int r = up(10);
        if (r < 2 && depth < 4) {
            return "(" + sum(depth + 1) + ")";
        }
        return r < 6 ? VARS[up(9)] : "" + (up(12) == 0 ? up(10000) : up(8));
    }

    private String part(int depth) {
        StringBuilder b = new StringBuilder(unit(depth));
        while (up(3) == 0) {
            b.append(up(2) == 0 ? " * " : "/ ").append(unit(depth));
        }
        return b.toString();
    }

    private String sum(int depth) {
        StringBuilder b = new StringBuilder(part(depth));
        while (up(3) == 0) {
            b.append(up(2) == 0 ? "+" : " - ").append(part(depth));
        }
        return b.toString();
    }

    private String law() {
        StringBuilder b = new StringBuilder();
        for (int i = 0; i < 4 && up(2) == 0; i++) {
            b.append("if ").append(sum(0)).append(" < ").append(sum(0)).append(" then ").append(sum(0)).append(" else ");
        }
        return b.append(sum(0)).toString();
    }

    private String text() {
        List<String> names = new ArrayList<>(List.of(NAMES));
        Collections.shuffle(names, random);
        int corners = 2 + up(6);
        List<String> tells = new ArrayList<>();
        for (int i = 0; i < corners; i++) {
            tells.add("corner " + names.get(i) + " " + up(10));
        }
        int lanes = 1 + up(10);
        for (int i = 0; i < lanes; i++) {
            int a = up(corners);
            int b = (a + 1 + up(corners - 1)) % corners;
            tells.add("lane " + names.get(a) + " " + names.get(b) + " " + (1 + up(9)));
        }
        if (up(4) > 0) {
            tells.add("house " + names.get(up(corners)));
        }
        int posts = up(6);
        for (int i = 0; i < posts; i++) {
            tells.add("post " + names.get(up(corners)) + " " + up(10));
        }
        int seekers = 1 + up(5);
        for (int i = 0; i < seekers; i++) {
            tells.add("seeker " + names.get(corners + i) + " " + up(10) + " " + names.get(up(corners)));
        }
        if (up(2) == 0) {
            tells.add("strays = " + law());
        } else if (up(4) > 0) {
            tells.add(new String[] {"strays = 1 + (sense + dark + fog) / 9", "strays = fog / 2", "strays = 2",
                "strays = if day < fog then 3 else long - 1", "strays = if sold < 1 then lanes else which"}[up(5)]);
        }
        for (String law : new String[] {"asks", "fears", "thickens"}) {
            if (up(2) == 0) {
                tells.add(law + " = " + law());
            }
        }
        if (up(2) == 0) {
            tells.add("thickens = if fog < 7 then fog + 1 + day / 5 else fog - 6");
        }
        if (up(3) > 0) {
            tells.add("wrong " + up(up(4) == 0 ? 100 : 6));
        }
        if (up(2) == 0) {
            tells.add("mist " + up(10));
        }
        if (up(4) > 0) {
            tells.add("seed " + up(10000));
        }
        Collections.shuffle(tells.subList(corners, tells.size()), random);
        return String.join(up(2) == 0 ? "; " : ";\n", tells) + ";";
    }

    private int type(byte[] text) {
        byte[] fits = text.length > 2000 ? java.util.Arrays.copyOf(text, 2000) : text;
        Due.type(x, fits);
        m.type(fits);
        due.is(from + "count(8)", x.count(8), m.count(8));
        int want = m.read();
        String told = from + new String(fits, StandardCharsets.ISO_8859_1);
        due.is("read() of " + told, x.read(), want);
        due.is("place() of " + told, x.place(), m.place());
        return want;
    }

    /** A number of 0 .. most, now and then one beside. */
    private int of(int most) {
        int r = up(160);
        if (r < 2) {
            return r == 0 ? Integer.MIN_VALUE : Integer.MAX_VALUE;
        }
        return r < 5 ? -1 : r < 8 ? most + 1 : up(Math.max(1, most + 1));
    }

    private void all(String ahead) {
        for (int what = -1; what <= 17; what++) {
            due.is(ahead + "count(" + what + ")", x.count(what), m.count(what));
        }
        for (int c = 0; c < m.count(0); c++) {
            for (int what = 0; what < 4; what++) {
                due.is(ahead + "corner(" + c + ", " + what + ")", x.corner(c, what), m.corner(c, what));
            }
        }
        for (int s = 0; s < m.count(2); s++) {
            due.is(ahead + "seeker(" + s + ", 2)", x.seeker(s, 2), m.seeker(s, 2));
        }
    }

    private void doOne(int s, int c) {
        int n = of(9);
        int what = of(2);
        boolean yes = up(2) == 0;
        switch (up(11)) {
            case 0:
            case 1:
                due.is(from + "send(" + s + ")", x.send(s), m.send(s));
                break;
            case 2:
            case 3:
                due.is(from + "turn(" + c + ", " + n + ")", x.turn(c, n), m.turn(c, n));
                break;
            case 4:
            case 5:
                due.is(from + "fog(" + yes + ")", x.fog(yes), m.fog(yes));
                break;
            case 6:
                due.is(from + "call(" + s + ")", x.call(s), m.call(s));
                break;
            case 7:
                int days = up(4) == 0 ? of(60) : of(4);
                due.is(from + "days(" + days + ")", x.days(days), m.days(days));
                break;
            case 8:
                due.is(from + "undo()", x.undo(), m.undo());
                break;
            case 9:
                due.is(from + "hold(" + what + ")", x.hold(what), m.hold(what));
                break;
            default:
                due.is(from + "restore(" + what + ")", x.restore(what), m.restore(what));
        }
        if (up(4) == 0) {
            all(from + "then ");
        }
    }

    private void askOfCases(int s, int c, int l) {
        int v = up(3) == 0 ? of(999) : of(60);
        int what = of(1);
        switch (up(12)) {
            case 0:
                due.is(from + "comes(" + s + ")", x.comes(s), m.comes(s));
                break;
            case 1:
                due.is(from + "may(" + s + ")", x.may(s), m.may(s));
                break;
            case 2:
                due.is(from + "straight(" + s + ")", x.straight(s), m.straight(s));
                break;
            case 3:
                due.is(from + "miles(" + s + ")", x.miles(s), m.miles(s));
                break;
            case 4:
                due.is(from + "passes(" + s + ", " + c + ")", x.passes(s, c), m.passes(s, c));
                break;
            case 5:
                due.is(from + "never(" + s + ")", x.never(s), m.never(s));
                break;
            case 6:
                due.is(from + "worth(" + s + ")", x.worth(s), m.worth(s));
                break;
            case 7:
                due.is(from + "afraid(" + s + ", " + v + ")", x.afraid(s, v), m.afraid(s, v));
                break;
            case 8:
                due.is(from + "span(" + s + ", " + what + ")", x.span(s, what), m.span(s, what));
                break;
            case 9:
                due.is(from + "uses(" + s + ", " + l + ")", x.uses(s, l), m.uses(s, l));
                break;
            case 10:
                due.is(from + "twice(" + s + ")", x.twice(s), m.twice(s));
                break;
            default:
                due.is(from + "who()", x.who(), m.who());
        }
    }

    private void askOfBest(int s, int c) {
        int what = of(1);
        int n = up(3) == 0 ? of(30) : of(5);
        int days = of(60);
        int seeds = up(30) == 0 ? 0 : 1 + of(19);
        int how = of(4);
        boolean best = up(2) == 0;
        switch (up(9)) {
            case 0:
                due.is(from + "clearest(" + s + ", " + what + ")", x.clearest(s, what), m.clearest(s, what));
                break;
            case 1:
                due.is(from + "waits(" + s + ", " + n + ", " + what + ")", x.waits(s, n, what), m.waits(s, n, what));
                break;
            case 2:
                due.is(from + "needed(" + s + ")", x.needed(s), m.needed(s));
                break;
            case 3:
                due.is(from + "turned(" + s + ", " + best + ", " + what + ")", x.turned(s, best, what),
                        m.turned(s, best, what));
                break;
            case 4:
                due.is(from + "lead(" + s + ")", x.lead(s), m.lead(s));
                break;
            case 5:
                due.is(from + "shortest(" + c + ")", x.shortest(c), m.shortest(c));
                break;
            case 6:
                due.is(from + "walk(" + s + ", " + how + ")", x.walk(s, how), m.walk(s, how));
                break;
            case 7:
                due.is(from + "fogIn(" + days + ")", x.fogIn(days), m.fogIn(days));
                break;
            default:
                due.is(from + "year(" + s + ", " + seeds + ")", x.year(s, seeds), m.year(s, seeds));
        }
    }

    private void askOfTold(int s, int c, int l) {
        int i = of(8);
        int k = of(m.count(10));
        int what = of(2);
        int miles = of(99);
        boolean so = up(2) == 0;
        switch (up(9)) {
            case 0:
            case 1:
                due.is(from + "tell(" + s + ", " + i + ", " + c + ", " + so + ")", x.tell(s, i, c, so),
                        m.tell(s, i, c, so));
                break;
            case 2:
                if (up(6) == 0) {
                    due.is(from + "forget()", x.forget(), m.forget());
                }
                break;
            case 3:
            case 4:
                due.is(from + "ways(" + k + ", " + s + ", " + what + ")", x.ways(k, s, what), m.ways(k, s, what));
                break;
            case 5:
            case 6:
                due.is(from + "look(" + k + ", " + s + ")", x.look(k, s), m.look(k, s));
                break;
            case 7:
                due.is(from + "strays(" + s + ", " + c + ")", x.strays(s, c), m.strays(s, c));
                due.is(from + "lane(" + l + ", " + what + ")", x.lane(l, what), m.lane(l, what));
                break;
            default:
                due.is(from + "tells(" + s + ", " + miles + ", " + what + ")", x.tells(s, miles, what),
                        m.tells(s, miles, what));
        }
    }

    private void lightly() {
        all(from + "lightly ");
        for (int s = 0; s < m.count(2); s++) {
            due.is(from + "tells(" + s + ", 7, 0)", x.tells(s, 7, 0), m.tells(s, 7, 0));
            due.is(from + "tells(" + s + ", 7, 1)", x.tells(s, 7, 1), m.tells(s, 7, 1));
            due.is(from + "strays(" + s + ", 0)", x.strays(s, 0), m.strays(s, 0));
            due.is(from + "walk(" + s + ", 3)", x.walk(s, 3), m.walk(s, 3));
            due.is(from + "walk(" + s + ", 4)", x.walk(s, 4), m.walk(s, 4));
            due.is(from + "seeker(" + s + ", 0)", x.seeker(s, 0), m.seeker(s, 0));
            due.is(from + "seeker(" + s + ", 1)", x.seeker(s, 1), m.seeker(s, 1));
        }
        for (int c = 0; c < m.count(0); c++) {
            due.is(from + "shortest(" + c + ")", x.shortest(c), m.shortest(c));
        }
        for (int l = 0; l < m.count(1); l++) {
            for (int what = 0; what < 3; what++) {
                due.is(from + "lane(" + l + ", " + what + ")", x.lane(l, what), m.lane(l, what));
            }
        }
        due.is(from + "fogIn(3)", x.fogIn(3), m.fogIn(3));
    }

    private void calls() {
        type(text().getBytes(StandardCharsets.ISO_8859_1));
        all(from + "at first ");
        for (int n = 0; n < CALLS; n++) {
            int s = of(m.count(2) - 1);
            int c = of(m.count(0) - 1);
            int l = of(m.count(1) - 1);
            switch (up(4)) {
                case 0:
                    doOne(s, c);
                    break;
                case 1:
                    askOfCases(s, c, l);
                    break;
                case 2:
                    askOfBest(s, c);
                    break;
                default:
                    askOfTold(s, c, l);
            }
        }
    }

    private static final String BYTES = "abz059;=+-*/<()  \n\t.A#\u00e9\u0000";
    private static final String[] PIECES = {"corner k 3;", "lane a b 1;", "house a;", "post a 1;", "seeker q 1 a;",
        "seed 1;", "mist 9;", "mist 10;", "wrong 100;", "if", "then", "else", "(", ")", "((((((", "1", "10", "0", "a",
        "if 1<2 then 3 else ", "sense", "asks = 1;", ";", "corner", "strays =", "99999", "abcdefghi"};

    private byte[] spoiled(String text) {
        StringBuilder b = new StringBuilder(text);
        int times = up(3) + 1;
        for (int i = 0; i < times; i++) {
            int at = up(b.length() + 1);
            switch (up(6)) {
                case 0:
                    b.insert(at, BYTES.charAt(up(BYTES.length())));
                    break;
                case 1:
                    b.insert(at, " " + PIECES[up(PIECES.length)] + " ");
                    break;
                case 2:
                    b.delete(at, Math.min(b.length(), at + 1 + up(6)));
                    break;
                case 3:
                    if (at < b.length()) {
                        b.setCharAt(at, BYTES.charAt(up(BYTES.length())));
                    }
                    break;
                case 4:
                    int stop = b.indexOf(";", at);
                    b.insert(stop < 0 ? b.length() : stop + 1, PIECES[up(PIECES.length)]);
                    break;
                default:
                    int from = up(b.length() + 1);
                    b.insert(from, b.substring(Math.min(at, from), Math.min(b.length(), Math.min(at, from) + up(300))));
            }
        }
        if (up(12) == 0) {
            while (b.length() < 1500) {
                b.append(" ").append(PIECES[up(PIECES.length)]);
            }
        }
        if (up(12) == 0) {
            int stop = b.indexOf(";");
            for (int i = up(140); i > 0 && stop >= 0; i--) {
                b.insert(stop + 1, "seed " + up(10) + ";");
            }
        }
        return b.toString().getBytes(StandardCharsets.ISO_8859_1);
    }

    /** Still a text by its shape, for the most part: other numbers, other names, TELLS in other order. */
    private byte[] muddled(String text) {
        List<String> tells = new ArrayList<>(List.of(text.split(";")));
        int times = up(3) + 1;
        for (int i = 0; i < times; i++) {
            int at = up(tells.size());
            switch (up(5)) {
                case 0:
                    tells.set(at, tells.get(at).replaceFirst("\\d+", "" + up(up(2) == 0 ? 13 : 120)));
                    break;
                case 1:
                    String[] words = tells.get(at).trim().split(" ");
                    int word = 1 + up(words.length);
                    if (word < words.length && words[word].matches("[a-z]+") && words.length <= 4) {
                        words[word] = NAMES[up(NAMES.length)];
                    }
                    tells.set(at, String.join(" ", words));
                    break;
                case 2:
                    String moved = tells.remove(at);
                    tells.add(up(tells.size() + 1), moved);
                    break;
                case 3:
                    tells.add(up(tells.size() + 1), tells.get(at));
                    break;
                default:
                    tells.remove(at);
            }
            if (tells.isEmpty()) {
                tells.add("mist 10");
            }
        }
        return (String.join(" ; ", tells) + ";").getBytes(StandardCharsets.ISO_8859_1);
    }

    public static void main(String[] args) {
        int[] faults = new int[6];
        for (int i = 0; i < WRONG_TEXTS && due.wrong() < 100; i++) {
            ModelTests t = new ModelTests(1000000 + i);
            for (int again = 0; again < 3; again++) {
                faults[t.type(i % 2 == 0 ? t.spoiled(t.text()) : t.muddled(t.text()))]++;
                t.lightly();
            }
        }
        System.out.println("texts by their faults: " + java.util.Arrays.toString(faults));
        for (int i = 0; i < TEXTS && due.wrong() < 100; i++) {
            ModelTests t = new ModelTests(i);
            t.calls();
            t.type(t.muddled(t.text()));
            t.type(t.muddled(t.text()));
            t.all(t.from + "at last ");
        }
        due.end();
    }
}
