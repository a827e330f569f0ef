import java.util.ArrayDeque;
import java.util.ArrayList;
import java.util.Arrays;
import java.util.Deque;
import java.util.HashMap;
import java.util.HashSet;
import java.util.List;
import java.util.Map;
import java.util.Set;
import java.util.TreeMap;
import java.util.function.ToIntFunction;

/**
 * The document once more, slow and in other ways than the class: texts by a table of the grammar
 * and a stack, LAWS as trees, every question by going through all 65,536 CASES one by one.
 */
final class Model {
    private static final List<String> WORDS = List.of("corner", "lane", "house", "post", "seeker", "strays", "asks",
            "fears", "thickens", "wrong", "mist", "seed", "if", "then", "else", "sense", "dark", "fog", "long", "day",
            "lanes", "which", "sold", "miles");
    private static final List<String> VARS = WORDS.subList(15, 24);

    /** kind: the word or sign itself, or NAME, INT, BAD, END. */
    record Token(String kind, String text, int place) { }

    record Lane(int one, int other, int far) { }

    record Seeker(int sense, int from) { }

    record Note(int seeker, int i, int corner, boolean so) { }

    /** One WALK: the CORNERS behind 0, 1, .. STEPS, the LANES taken, the STEPS STRAYED. */
    record Walk(List<Integer> at, List<Integer> lanes, int strayed) {
        int end() {
            return at.get(at.size() - 1);
        }

        int behind(int i) {
            return at.get(Math.min(i, at.size() - 1));
        }
    }

    /** What goes on. */
    static final class Going implements Cloneable {
        int day;
        int fog;
        int buyer = -2;
        int price;
        int[] sign = new int[7];
        int[] is = new int[5];

        Going copy() {
            Going g = new Going();
            g.day = day;
            g.fog = fog;
            g.buyer = buyer;
            g.price = price;
            g.sign = sign.clone();
            g.is = is.clone();
            return g;
        }

        String key() {
            return day + " " + fog + " " + buyer + " " + Arrays.toString(sign);
        }
    }

    /** What a text tells. */
    static final class Told {
        List<String> cornerNames = new ArrayList<>();
        List<Integer> dark = new ArrayList<>();
        List<Lane> lanes = new ArrayList<>();
        List<Seeker> seekers = new ArrayList<>();
        Map<Integer, Integer> posts = new HashMap<>();
        Map<String, ToIntFunction<Map<String, Integer>>> laws = new HashMap<>();
        int house = 0;
        int wrong = 1;
        int mist = 0;
        int seed = 0;
    }

    private byte[] tape = new byte[0];
    private int place = -1;
    private Told told = new Told();
    private Going now = new Going();
    private Deque<Going> done = new ArrayDeque<>();
    private Going[] slots = new Going[3];
    private List<Note> notes = new ArrayList<>();
    private final Map<String, Map<Walk, Integer>> walked = new HashMap<>();

    void type(byte[] text) {
        tape = text.clone();
    }

    // ---- texts

    private static List<Token> tokens(byte[] tape) {
        List<Token> all = new ArrayList<>();
        int i = 0;
        while (i < tape.length) {
            char c = (char) (tape[i] & 255);
            if (" \t\r\n".indexOf(c) >= 0) {
                i++;
                continue;
            }
            int from = i;
            StringBuilder run = new StringBuilder();
            boolean letter = c >= 'a' && c <= 'z';
            boolean digit = c >= '0' && c <= '9';
            while (i < tape.length) {
                char d = (char) (tape[i] & 255);
                boolean on = letter ? d >= 'a' && d <= 'z' : digit ? d >= '0' && d <= '9' : i == from;
                if (!on) {
                    break;
                }
                run.append(d);
                i++;
            }
            String text = run.toString();
            String kind;
            if (letter) {
                kind = text.length() > 8 ? "BAD" : WORDS.contains(text) ? text : "NAME";
            } else if (digit) {
                kind = text.length() > 4 ? "BAD" : "INT";
            } else {
                kind = ";=+-*/<()".contains(text) ? text : "BAD";
            }
            all.add(new Token(kind, text, from));
        }
        all.add(new Token("END", "", tape.length));
        return all;
    }

    /** What a nonterminal becomes ahead of a kind; null: the kind does not fit. */
    private static String[] rule(String symbol, String kind) {
        boolean unit = kind.equals("INT") || kind.equals("(") || VARS.contains(kind);
        switch (symbol) {
            case "text":
                return kind.equals("END") ? new String[] {"END"} : new String[] {"tell", "text"};
            case "tell":
                switch (kind) {
                    case "corner":
                    case "post":
                        return new String[] {kind, "NAME", "INT", ";"};
                    case "lane":
                        return new String[] {kind, "NAME", "NAME", "INT", ";"};
                    case "house":
                        return new String[] {kind, "NAME", ";"};
                    case "seeker":
                        return new String[] {kind, "NAME", "INT", "NAME", ";"};
                    case "strays":
                    case "asks":
                    case "fears":
                    case "thickens":
                        return new String[] {kind, "=", "law", ";"};
                    case "wrong":
                    case "mist":
                    case "seed":
                        return new String[] {kind, "INT", ";"};
                    default:
                        return null;
                }
            case "law":
                return kind.equals("if") ? new String[] {"if", "e", "<", "e", "then", "e", "else", "law"}
                        : unit ? new String[] {"e"} : null;
            case "e":
                return unit ? new String[] {"part", "e2"} : null;
            case "e2":
                return kind.equals("+") || kind.equals("-") ? new String[] {kind, "part", "e2"} : new String[0];
            case "part":
                return unit ? new String[] {"unit", "part2"} : null;
            case "part2":
                return kind.equals("*") || kind.equals("/") ? new String[] {kind, "unit", "part2"} : new String[0];
            default:
                return !unit ? null : kind.equals("(") ? new String[] {"(", "e", ")"} : new String[] {kind};
        }
    }

    private static final Set<String> NONTERMINALS =
            Set.of("text", "tell", "law", "e", "e2", "part", "part2", "unit");

    /** Fault * 10000 + place of SYNTAX or ROOM; -1: none. */
    private static int shapeFault(List<Token> tokens) {
        Deque<String> due = new ArrayDeque<>();
        due.push("text");
        Map<String, Integer> many = new HashMap<>();
        Map<String, Integer> most = Map.of("corner", 7, "lane", 10, "seeker", 5, "post", 7);
        int open = 0;
        int ifs = 0;
        for (int i = 0; i < tokens.size(); i++) {
            Token t = tokens.get(i);
            while (NONTERMINALS.contains(due.peek())) {
                String[] rule = rule(due.pop(), t.kind());
                if (rule == null) {
                    return 10000 + t.place();
                }
                for (int j = rule.length - 1; j >= 0; j--) {
                    due.push(rule[j]);
                }
            }
            if (!t.kind().equals(due.pop())) {
                return 10000 + t.place();
            }
            if (t.kind().equals("END")) {
                return -1;
            }
            open += t.kind().equals("(") ? 1 : t.kind().equals(")") ? -1 : 0;
            ifs = t.kind().equals("if") ? ifs + 1 : t.kind().equals("=") ? 0 : ifs;
            many.merge(t.kind(), 1, Integer::sum);
            boolean over = most.containsKey(t.kind()) && many.get(t.kind()) > most.get(t.kind());
            if (i >= 400 || over || t.kind().equals("(") && open > 6 || t.kind().equals("if") && ifs > 4) {
                return 20000 + t.place();
            }
        }
        throw new IllegalStateException("no end");
    }

    /** The least of all FAULTS 3 to 5, as place * 10 + fault; -1: none. Fills what is told. */
    private static int meaningFault(List<Token> tokens, Told told) {
        List<Integer> faults = new ArrayList<>();
        Set<String> names = new HashSet<>();
        int i = 0;
        while (!tokens.get(i).kind().equals("END")) {
            int end = i;
            while (!tokens.get(end).kind().equals(";")) {
                end++;
            }
            List<Token> t = tokens.subList(i, end);
            meaning(t, told, names, faults);
            i = end + 1;
        }
        return faults.stream().mapToInt(x -> x).min().orElse(-1);
    }

    private static int cornerNamed(Token t, Told told, List<Integer> faults) {
        int c = told.cornerNames.indexOf(t.text());
        if (c < 0) {
            faults.add(t.place() * 10 + 4);
        }
        return Math.max(c, 0);
    }

    private static int number(Token t, int least, int most, List<Integer> faults) {
        int n = Integer.parseInt(t.text());
        if (n < least || n > most) {
            faults.add(t.place() * 10 + 5);
        }
        return n;
    }

    private static void meaning(List<Token> t, Told told, Set<String> names, List<Integer> faults) {
        String tell = t.get(0).kind();
        switch (tell) {
            case "corner":
                if (!names.add(t.get(1).text())) {
                    faults.add(t.get(1).place() * 10 + 3);
                }
                told.cornerNames.add(t.get(1).text());
                told.dark.add(number(t.get(2), 0, 9, faults));
                break;
            case "lane":
                if (t.get(1).text().equals(t.get(2).text())) {
                    if (told.cornerNames.contains(t.get(1).text())) {
                        faults.add(t.get(2).place() * 10 + 3);
                    }
                }
                told.lanes.add(new Lane(cornerNamed(t.get(1), told, faults), cornerNamed(t.get(2), told, faults),
                        number(t.get(3), 1, 9, faults)));
                break;
            case "house":
                told.house = cornerNamed(t.get(1), told, faults);
                break;
            case "post":
                told.posts.put(cornerNamed(t.get(1), told, faults), number(t.get(2), 0, 9, faults));
                break;
            case "seeker":
                if (!names.add(t.get(1).text())) {
                    faults.add(t.get(1).place() * 10 + 3);
                }
                told.seekers.add(new Seeker(number(t.get(2), 0, 9, faults), cornerNamed(t.get(3), told, faults)));
                break;
            case "wrong":
                told.wrong = number(t.get(1), 0, 99, faults);
                break;
            case "mist":
                told.mist = number(t.get(1), 0, 9, faults);
                break;
            case "seed":
                told.seed = number(t.get(1), 0, 9999, faults);
                break;
            default:
                told.laws.put(tell, law(t.subList(2, t.size())));
        }
    }

    private static int indexOf(List<Token> t, String kind) {
        for (int i = 0; i < t.size(); i++) {
            if (t.get(i).kind().equals(kind)) {
                return i;
            }
        }
        return -1;
    }

    private static ToIntFunction<Map<String, Integer>> law(List<Token> t) {
        if (!t.get(0).kind().equals("if")) {
            return e(t);
        }
        int less = indexOf(t, "<");
        int then = indexOf(t, "then");
        int other = indexOf(t, "else");
        ToIntFunction<Map<String, Integer>> a = e(t.subList(1, less));
        ToIntFunction<Map<String, Integer>> b = e(t.subList(less + 1, then));
        ToIntFunction<Map<String, Integer>> c = e(t.subList(then + 1, other));
        ToIntFunction<Map<String, Integer>> d = law(t.subList(other + 1, t.size()));
        return v -> a.applyAsInt(v) < b.applyAsInt(v) ? c.applyAsInt(v) : d.applyAsInt(v);
    }

    /** Splits at the last sign of the weakest kind outside of brackets. */
    private static ToIntFunction<Map<String, Integer>> e(List<Token> t) {
        for (String signs : new String[] {"+-", "*/"}) {
            int open = 0;
            for (int i = t.size() - 1; i >= 0; i--) {
                String k = t.get(i).kind();
                open += k.equals(")") ? 1 : k.equals("(") ? -1 : 0;
                if (open == 0 && k.length() == 1 && signs.contains(k)) {
                    ToIntFunction<Map<String, Integer>> a = e(t.subList(0, i));
                    ToIntFunction<Map<String, Integer>> b = e(t.subList(i + 1, t.size()));
                    switch (k) {
                        case "+":
                            return v -> a.applyAsInt(v) + b.applyAsInt(v);
                        case "-":
                            return v -> a.applyAsInt(v) - b.applyAsInt(v);
                        case "*":
                            return v -> a.applyAsInt(v) * b.applyAsInt(v);
                        default:
                            return v -> a.applyAsInt(v) / b.applyAsInt(v);
                    }
                }
            }
        }
        if (t.get(0).kind().equals("(")) {
            return e(t.subList(1, t.size() - 1));
        }
        if (t.get(0).kind().equals("INT")) {
            int n = Integer.parseInt(t.get(0).text());
            return v -> n;
        }
        String var = t.get(0).kind();
        return v -> v.getOrDefault(var, 0);
    }

    int read() {
        List<Token> tokens = tokens(tape);
        tape = new byte[0];
        int shape = shapeFault(tokens);
        if (shape >= 0) {
            place = shape % 10000;
            return shape / 10000;
        }
        Told next = new Told();
        int meaning = meaningFault(tokens, next);
        if (meaning >= 0) {
            place = meaning / 10;
            return meaning % 10;
        }
        place = -1;
        told = next;
        now = new Going();
        now.fog = told.mist;
        told.posts.forEach((c, n) -> now.sign[c] = n);
        done.clear();
        slots = new Going[3];
        notes.clear();
        walked.clear();
        return 0;
    }

    int place() {
        return place;
    }

    // ---- terms

    private boolean no(int i, int many) {
        return i < 0 || i >= many;
    }

    private boolean noSeeker(int s) {
        return no(s, told.seekers.size());
    }

    private boolean noCorner(int c) {
        return no(c, told.dark.size());
    }

    private List<Integer> lanesAt(int corner) {
        List<Integer> at = new ArrayList<>();
        for (int l = 0; l < told.lanes.size(); l++) {
            if (told.lanes.get(l).one() == corner || told.lanes.get(l).other() == corner) {
                at.add(l);
            }
        }
        return at;
    }

    private int lawOf(String law, int most, int untold, Going g, Object... vars) {
        ToIntFunction<Map<String, Integer>> f = told.laws.get(law);
        if (f == null) {
            return Math.max(0, Math.min(most, untold));
        }
        Map<String, Integer> v = new HashMap<>();
        v.put("fog", g.fog);
        v.put("day", g.day);
        v.put("sold", g.buyer == -2 ? 0 : 1);
        for (int i = 0; i < vars.length; i += 2) {
            v.put((String) vars[i], (Integer) vars[i + 1]);
        }
        int told;
        try {
            told = f.applyAsInt(v);
        } catch (ArithmeticException divided) {
            told = 0;
        }
        return Math.max(0, Math.min(most, told));
    }

    private int straysOf(Going g, int s, int c) {
        List<Integer> at = lanesAt(c);
        if (at.isEmpty()) {
            return 0;
        }
        int shown = at.get(g.sign[c] % at.size());
        return lawOf("strays", 4, 1, g, "sense", told.seekers.get(s).sense(), "dark", told.dark.get(c), "long",
                told.lanes.get(shown).far(), "lanes", at.size(), "which", s);
    }

    private int ofMiles(String law, Going g, int s, int miles) {
        return lawOf(law, 999, miles, g, "sense", told.seekers.get(s).sense(), "miles", miles, "which", s);
    }

    private void dayGoes(Going g) {
        if (told.laws.containsKey("thickens")) {
            g.fog = lawOf("thickens", 9, 0, g);
        }
        g.day++;
    }

    private static int lot(int n, int seed, int which) {
        long h = seed & 0xffffffffL;
        for (int it : new int[] {187, which}) {
            h = ((h ^ it & 0xffffffffL) & 0xffffffffL) * 1103515245L + 12345L & 0xffffffffL;
            h = h ^ h >> 15;
        }
        return (int) ((h >> 1) % n);
    }

    private Walk walkOf(Going g, int s, boolean[] strays) {
        List<Integer> at = new ArrayList<>();
        List<Integer> taken = new ArrayList<>();
        int strayed = 0;
        int c = told.seekers.get(s).from();
        at.add(c);
        for (int step = 0; step < 8; step++) {
            List<Integer> lanes = lanesAt(c);
            if (c == told.house || lanes.isEmpty()) {
                break;
            }
            int lane = lanes.get((g.sign[c] + (strays[step] ? 1 : 0)) % lanes.size());
            strayed |= strays[step] ? 1 << step : 0;
            Lane l = told.lanes.get(lane);
            c = l.one() + l.other() - c;
            at.add(c);
            taken.add(lane);
        }
        return new Walk(at, taken, strayed);
    }

    private Walk byLot(Going g, int s, int seed) {
        boolean[] strays = new boolean[8];
        Walk w = walkOf(g, s, strays);
        for (int step = 0; step < 8; step++) {
            // where one is behind `step` STEPS is known, as all STRAYINGS ahead are
            int c = w.behind(step);
            strays[step] = lot(4, seed, 64 * g.day + 8 * s + step) < straysOf(g, s, c);
            w = walkOf(g, s, strays);
        }
        return w;
    }

    private Map<Walk, Integer> allCases(Going g, int s) {
        return walked.computeIfAbsent(s + " " + g.key(), key -> countCases(g, s));
    }

    private Map<Walk, Integer> countCases(Going g, int s) {
        int n = told.dark.size();
        int[] quarters = new int[n];
        int[][] to = new int[2][n];
        boolean[] ends = new boolean[n];
        for (int c = 0; c < n; c++) {
            quarters[c] = straysOf(g, s, c);
            List<Integer> lanes = lanesAt(c);
            ends[c] = c == told.house || lanes.isEmpty();
            for (int k = 0; k < 2 && !lanes.isEmpty(); k++) {
                Lane l = told.lanes.get(lanes.get((g.sign[c] + k) % lanes.size()));
                to[k][c] = l.one() + l.other() - c;
            }
        }
        Map<Integer, Integer> many = new TreeMap<>();
        int from = told.seekers.get(s).from();
        for (int q = 0; q < 65536; q++) {
            int c = from;
            int strayed = 0;
            for (int step = 0; step < 8 && !ends[c]; step++) {
                boolean stray = (q >> 2 * step & 3) < quarters[c];
                strayed |= stray ? 1 << step : 0;
                c = to[stray ? 1 : 0][c];
            }
            many.merge(strayed, 1, Integer::sum);
        }
        Map<Walk, Integer> walks = new HashMap<>();
        many.forEach((strayed, cases) -> {
            boolean[] strays = new boolean[8];
            for (int i = 0; i < 8; i++) {
                strays[i] = (strayed >> i & 1) != 0;
            }
            walks.put(walkOf(g, s, strays), cases);
        });
        return walks;
    }

    private int milesOf(Walk w) {
        return w.lanes().stream().mapToInt(l -> told.lanes.get(l).far()).sum();
    }

    private boolean comesBy(Walk w) {
        return w.end() == told.house;
    }

    private int shortestFrom(int corner, int without) {
        int n = told.dark.size();
        int far = 1000000;
        int[][] d = new int[n][n];
        for (int i = 0; i < n; i++) {
            Arrays.fill(d[i], far);
            d[i][i] = 0;
        }
        for (int l = 0; l < told.lanes.size(); l++) {
            Lane lane = told.lanes.get(l);
            if (l != without) {
                d[lane.one()][lane.other()] = Math.min(d[lane.one()][lane.other()], lane.far());
                d[lane.other()][lane.one()] = d[lane.one()][lane.other()];
            }
        }
        for (int k = 0; k < n; k++) {
            for (int i = 0; i < n; i++) {
                for (int j = 0; j < n; j++) {
                    d[i][j] = Math.min(d[i][j], d[i][k] + d[k][j]);
                }
            }
        }
        return d[corner][told.house] >= far ? -2 : d[corner][told.house];
    }

    private boolean mayBy(Walk w) {
        return comesBy(w) && w.strayed() != 0
                && milesOf(w) - shortestFrom(w.at().get(0), -1) >= told.wrong;
    }

    private interface Weight {
        int of(Walk w);
    }

    private int added(Going g, int s, Weight weight) {
        int sum = 0;
        for (Map.Entry<Walk, Integer> e : allCases(g, s).entrySet()) {
            sum += e.getValue() * weight.of(e.getKey());
        }
        return sum;
    }

    private int mayOf(Going g, int s) {
        return added(g, s, w -> mayBy(w) ? 1 : 0);
    }

    // ---- the face

    int corner(int c, int what) {
        if (noCorner(c)) {
            return -1;
        }
        List<Integer> at = lanesAt(c);
        switch (what) {
            case 0:
                return told.dark.get(c);
            case 1:
                return at.stream().mapToInt(l -> 1 << l).sum();
            case 2:
                return at.isEmpty() ? -2 : at.get(now.sign[c] % at.size());
            case 3:
                return told.house == c ? 1 : 0;
            default:
                return -1;
        }
    }

    int lane(int l, int what) {
        if (no(l, told.lanes.size()) || no(what, 3)) {
            return -1;
        }
        Lane lane = told.lanes.get(l);
        return what == 0 ? lane.one() : what == 1 ? lane.other() : lane.far();
    }

    int seeker(int s, int what) {
        if (noSeeker(s) || no(what, 3)) {
            return -1;
        }
        return what == 0 ? told.seekers.get(s).sense() : what == 1 ? told.seekers.get(s).from() : now.is[s];
    }

    int strays(int s, int c) {
        return noSeeker(s) || noCorner(c) ? -1 : straysOf(now, s, c);
    }

    int tells(int s, int miles, int what) {
        return noSeeker(s) || no(miles, 100) || no(what, 2) ? -1 : ofMiles(what == 0 ? "asks" : "fears", now, s, miles);
    }

    private void keep() {
        done.addLast(now.copy());
        if (done.size() > 40) {
            done.removeFirst();
        }
    }

    int send(int s) {
        if (noSeeker(s) || now.buyer != -2 || now.is[s] != 0) {
            return -1;
        }
        keep();
        Walk w = byLot(now, s, told.seed);
        if (mayBy(w)) {
            now.price = ofMiles("asks", now, s, milesOf(w));
            now.buyer = s;
            now.is[s] = 2;
        } else {
            now.is[s] = 1;
        }
        return w.end();
    }

    boolean turn(int c, int number) {
        if (noCorner(c) || no(number, 10) || lanesAt(c).isEmpty() || now.sign[c] == number) {
            return false;
        }
        keep();
        now.sign[c] = number;
        return true;
    }

    boolean fog(boolean more) {
        if (now.fog == (more ? 9 : 0)) {
            return false;
        }
        keep();
        now.fog += more ? 1 : -1;
        return true;
    }

    boolean call(int s) {
        if (noSeeker(s) || now.is[s] != 1) {
            return false;
        }
        keep();
        now.is[s] = 0;
        return true;
    }

    int days(int n) {
        if (no(n, 61)) {
            return -1;
        }
        if (n > 0) {
            keep();
        }
        for (int i = 0; i < n; i++) {
            dayGoes(now);
        }
        return now.day;
    }

    boolean undo() {
        if (done.isEmpty()) {
            return false;
        }
        now = done.removeLast();
        return true;
    }

    int comes(int s) {
        return noSeeker(s) ? -1 : added(now, s, w -> comesBy(w) ? 1 : 0);
    }

    int may(int s) {
        return noSeeker(s) ? -1 : mayOf(now, s);
    }

    int straight(int s) {
        return noSeeker(s) ? -1 : added(now, s, w -> comesBy(w) && w.strayed() == 0 ? 1 : 0);
    }

    int miles(int s) {
        return noSeeker(s) ? -1 : added(now, s, this::milesOf);
    }

    int passes(int s, int c) {
        return noSeeker(s) || noCorner(c) ? -1 : added(now, s, w -> w.at().contains(c) ? 1 : 0);
    }

    int never(int s) {
        if (noSeeker(s)) {
            return -1;
        }
        int bits = 0;
        for (int c = 0; c < told.dark.size(); c++) {
            bits |= passes(s, c) == 0 ? 1 << c : 0;
        }
        return bits;
    }

    int worth(int s) {
        return noSeeker(s) ? -1 : added(now, s, w -> mayBy(w) ? ofMiles("asks", now, s, milesOf(w)) : 0);
    }

    int afraid(int s, int v) {
        return noSeeker(s) || no(v, 1000) ? -1
                : added(now, s, w -> comesBy(w) && ofMiles("fears", now, s, milesOf(w)) >= v ? 1 : 0);
    }

    int span(int s, int what) {
        if (noSeeker(s) || no(what, 2)) {
            return -1;
        }
        int[] miles = allCases(now, s).keySet().stream().filter(this::mayBy).mapToInt(this::milesOf).sorted().toArray();
        return miles.length == 0 ? -2 : miles[what == 0 ? 0 : miles.length - 1];
    }

    int uses(int s, int l) {
        return noSeeker(s) || no(l, told.lanes.size()) ? -1 : added(now, s, w -> w.lanes().contains(l) ? 1 : 0);
    }

    int twice(int s) {
        return noSeeker(s) ? -1 : added(now, s, w -> new HashSet<>(w.at()).size() < w.at().size() ? 1 : 0);
    }

    int clearest(int s, int what) {
        if (noSeeker(s) || no(what, 2)) {
            return -1;
        }
        int[] may = new int[10];
        for (int f = 0; f < 10; f++) {
            Going g = now.copy();
            g.fog = f;
            may[f] = mayOf(g, s);
        }
        return firstOfMost(may, what);
    }

    private static int firstOfMost(int[] much, int what) {
        int most = Arrays.stream(much).max().getAsInt();
        for (int i = 0; i < much.length; i++) {
            if (much[i] == most) {
                return what == 0 ? i : most;
            }
        }
        throw new IllegalStateException();
    }

    int waits(int s, int n, int what) {
        if (noSeeker(s) || no(n, 31) || no(what, 2)) {
            return -1;
        }
        int[] may = new int[n + 1];
        Going g = now.copy();
        for (int i = 0; i <= n; i++) {
            may[i] = mayOf(g.copy(), s);
            dayGoes(g);
        }
        return firstOfMost(may, what);
    }

    int needed(int s) {
        if (noSeeker(s)) {
            return -1;
        }
        int from = told.seekers.get(s).from();
        int bits = 0;
        for (int l = 0; l < told.lanes.size() && shortestFrom(from, -1) != -2; l++) {
            bits |= shortestFrom(from, l) == -2 ? 1 << l : 0;
        }
        return bits;
    }

    int turned(int s, boolean best, int what) {
        if (noSeeker(s) || no(what, 2)) {
            return -1;
        }
        int much = mayOf(now, s);
        int which = -2;
        for (int c = 0; c < told.dark.size(); c++) {
            for (int n = 0; n < lanesAt(c).size(); n++) {
                Going g = now.copy();
                g.sign[c] = n;
                int may = mayOf(g, s);
                if (best && may > much || !best && may < much) {
                    much = may;
                    which = 10 * c + n;
                }
            }
        }
        return which == -2 ? -2 : what == 0 ? which : much;
    }

    /** All ways to set all signs, by the fewest that are not as now. */
    int lead(int s) {
        if (noSeeker(s)) {
            return -1;
        }
        int best = turnsFrom(now.copy(), s, 0);
        return best > 7 ? -2 : best;
    }

    private int turnsFrom(Going g, int s, int corner) {
        if (corner == told.dark.size()) {
            if (!comesBy(walkOf(g, s, new boolean[8]))) {
                return 99;
            }
            int turns = 0;
            for (int c = 0; c < corner; c++) {
                turns += g.sign[c] != now.sign[c] ? 1 : 0;
            }
            return turns;
        }
        int best = turnsFrom(g, s, corner + 1);
        for (int n = 0; n < lanesAt(corner).size() && corner != told.house; n++) {
            Going other = g.copy();
            other.sign[corner] = n;
            best = Math.min(best, turnsFrom(other, s, corner + 1));
        }
        return best;
    }

    int who() {
        int which = -2;
        for (int s = 0; s < told.seekers.size(); s++) {
            if (now.is[s] == 0 && (which == -2 || mayOf(now, s) > mayOf(now, which))) {
                which = s;
            }
        }
        return which;
    }

    int shortest(int c) {
        return noCorner(c) ? -1 : shortestFrom(c, -1);
    }

    int walk(int s, int what) {
        if (noSeeker(s) || no(what, 5)) {
            return -1;
        }
        Walk w = byLot(now, s, told.seed);
        return what == 0 ? w.end() : what == 1 ? milesOf(w) : what == 2 ? w.lanes().size()
                : what == 3 ? w.strayed() : mayBy(w) ? 1 : 0;
    }

    int fogIn(int n) {
        if (no(n, 61)) {
            return -1;
        }
        Going g = now.copy();
        for (int i = 0; i < n; i++) {
            dayGoes(g);
        }
        return g.fog;
    }

    int year(int s, int seeds) {
        if (noSeeker(s) || no(seeds - 1, 20)) {
            return -1;
        }
        int many = 0;
        for (int i = 0; i < seeds; i++) {
            many += mayBy(byLot(now, s, told.seed + i)) ? 1 : 0;
        }
        return many;
    }

    int tell(int s, int i, int c, boolean so) {
        if (noSeeker(s) || no(i, 9) || noCorner(c) || notes.size() == 20) {
            return -1;
        }
        notes.add(new Note(s, i, c, so));
        return notes.size() - 1;
    }

    int forget() {
        int many = notes.size();
        notes.clear();
        return many;
    }

    private List<Walk> waysLeft(int k, int s) {
        List<Walk> left = new ArrayList<>();
        for (Walk w : allCases(now, s).keySet()) {
            if (notes.subList(0, k).stream().allMatch(n -> n.seeker() != s || (w.behind(n.i()) == n.corner()) == n.so())) {
                left.add(w);
            }
        }
        return left;
    }

    int ways(int k, int s, int what) {
        if (no(k, notes.size() + 1) || noSeeker(s) || no(what, 3)) {
            return -1;
        }
        List<Walk> left = waysLeft(k, s);
        Map<Walk, Integer> cases = allCases(now, s);
        if (what == 0) {
            return left.size();
        }
        if (what == 1) {
            return left.stream().mapToInt(cases::get).sum();
        }
        return left.stream().max((a, b) -> cases.get(a).equals(cases.get(b))
                ? Integer.compare(b.strayed(), a.strayed())
                : Integer.compare(cases.get(a), cases.get(b))).map(Walk::strayed).orElse(-2);
    }

    int look(int k, int s) {
        if (no(k, notes.size() + 1) || noSeeker(s)) {
            return -1;
        }
        List<Walk> left = waysLeft(k, s);
        int best = -2;
        int fewest = 1000;
        for (int i = 1; i <= 8 && !left.isEmpty(); i++) {
            int worst = 0;
            for (int c = 0; c < told.dark.size(); c++) {
                int many = 0;
                for (Walk w : left) {
                    many += w.behind(i) == c ? 1 : 0;
                }
                worst = Math.max(worst, many);
            }
            if (worst < fewest) {
                fewest = worst;
                best = i;
            }
        }
        return best;
    }

    boolean hold(int slot) {
        if (no(slot, 3)) {
            return false;
        }
        slots[slot] = now.copy();
        return true;
    }

    boolean restore(int slot) {
        if (no(slot, 3) || slots[slot] == null) {
            return false;
        }
        now = slots[slot].copy();
        done.clear();
        return true;
    }

    private int whoIs(int is) {
        int bits = 0;
        for (int s = 0; s < told.seekers.size(); s++) {
            bits |= now.is[s] == is ? 1 << s : 0;
        }
        return bits;
    }

    int count(int what) {
        int lonely = 0;
        for (int c = 0; c < told.dark.size(); c++) {
            lonely |= lanesAt(c).isEmpty() ? 1 << c : 0;
        }
        int[] all = {told.dark.size(), told.lanes.size(), told.seekers.size(), now.day, now.fog, now.buyer, now.price,
            whoIs(0), tape.length, done.size(), notes.size(),
            (int) Arrays.stream(slots).filter(g -> g != null).count(), told.dark.isEmpty() ? -2 : told.house,
            whoIs(1), told.lanes.stream().mapToInt(Lane::far).sum(), lonely,
            told.dark.stream().mapToInt(x -> x).sum()};
        return no(what, all.length) ? -1 : all[what];
    }
}
