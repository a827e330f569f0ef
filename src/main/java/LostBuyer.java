import java.util.Arrays;

/**
 * A house that is sold only to whoever got lost looking for it.
 * DOC.md has the promises; the words in capitals in comments are its terms.
 */
public final class LostBuyer {
    public static final int NONE = -1;

    /** The document's -2: the question stands, but there is nothing to name. */
    private static final int NOTHING = -2;

    private static final int TAPE = 2000;
    private static final int FED_AT_ONCE = 20;
    private static final int TOKENS = 400;
    private static final int CORNERS = 7;
    private static final int LANES = 10;
    private static final int SEEKERS = 5;
    private static final int POSTS = 7;
    private static final int IFS = 4;
    private static final int BRACKETS = 6;

    private static final int STEPS = 8;
    private static final int QUARTERS = 4;
    private static final int CASES = 65536;
    /** Every STEP can part a WALK in two: 2 to the 8. */
    private static final int WALKS = 256;
    /** Bits that hold the number of one CORNER within a path. */
    private static final int CORNER_BITS = 3;

    private static final int MOST_FOG = 9;
    private static final int MOST_SIGN = 9;
    private static final int MOST_MILES = 999;
    private static final int DAYS_AT_ONCE = 60;
    private static final int DAYS_TO_WAIT = 30;
    private static final int SEEDS = 20;
    private static final int NOTES = 20;
    private static final int UNDONE = 40;
    private static final int SLOTS = 3;

    private static final int HOME = 0;
    private static final int OUT = 1;
    private static final int BOUGHT = 2;

    private static final int SYNTAX = 1;
    private static final int ROOM = 2;
    private static final int TWICE = 3;
    private static final int NAME = 4;
    private static final int WRONG = 5;

    /** The four LAWS, in the order in which their words stand in WORDS. */
    private static final int STRAYS = 0;
    private static final int ASKS = 1;
    private static final int FEARS = 2;
    private static final int THICKENS = 3;
    private static final int LAWS = 4;

    /** The VARS, in the order in which their words stand in WORDS. */
    private static final int SENSE = 0;
    private static final int DARK = 1;
    private static final int FOG = 2;
    private static final int LONG = 3;
    private static final int DAY = 4;
    private static final int MANY_LANES = 5;
    private static final int WHICH = 6;
    private static final int SOLD = 7;
    private static final int MILES = 8;
    private static final int VARS = 9;

    private static final String SIGNS = ";=+-*/<()";
    /** A word's place here is its kind; a blank behind each, the last too, ends it. */
    private static final String WORDS = "corner lane house post seeker strays asks fears thickens wrong mist seed if then else sense dark fog long day lanes which sold miles ";

    /** Kinds of TOKENS; a sign's kind is its byte, so these keep clear of bytes. */
    private static final int KIND_END = 256;
    private static final int KIND_BAD = 257;
    private static final int KIND_NAME = 258;
    private static final int KIND_INT = 259;
    private static final int KIND_WORD = 260;
    private static final int KIND_CORNER = KIND_WORD;
    private static final int KIND_LANE = KIND_WORD + 1;
    private static final int KIND_HOUSE = KIND_WORD + 2;
    private static final int KIND_POST = KIND_WORD + 3;
    private static final int KIND_SEEKER = KIND_WORD + 4;
    private static final int KIND_LAW = KIND_WORD + 5;
    private static final int KIND_WRONG = KIND_WORD + 9;
    private static final int KIND_MIST = KIND_WORD + 10;
    private static final int KIND_SEED = KIND_WORD + 11;
    private static final int KIND_IF = KIND_WORD + 12;
    private static final int KIND_THEN = KIND_WORD + 13;
    private static final int KIND_ELSE = KIND_WORD + 14;
    private static final int KIND_VAR = KIND_WORD + 15;

    private final byte[] tape;
    private int fed;
    private int faultPlace;
    private final Reader reader;
    private Town town;
    private final State now;
    /** What would be is tried out on this one. */
    private final State guess;
    private final History history;
    private final State[] slots;
    private final boolean[] held;
    private final Notes notes;
    private final Walks walks;

    public LostBuyer() {
        tape = new byte[TAPE];
        fed = 0;
        faultPlace = NONE;
        reader = new Reader();
        town = new Town();
        now = new State();
        guess = new State();
        history = new History();
        slots = new State[SLOTS];
        for (int i = 0; i < SLOTS; i++) {
            slots[i] = new State();
        }
        held = new boolean[SLOTS];
        notes = new Notes();
        walks = new Walks();
    }

    // ---- the tape and the text

    public int feed(int a, int b, int c, int d, int e) {
        if (fed + FED_AT_ONCE > TAPE) {
            return NONE;
        }
        put(a);
        put(b);
        put(c);
        put(d);
        put(e);
        return fed;
    }

    private void put(int four) {
        for (int shift = 24; shift >= 0 && fed < TAPE; shift -= 8) {
            tape[fed] = (byte) (four >>> shift);
            fed++;
        }
    }

    public int back(int n) {
        if (n < 0 || n > fed) {
            return NONE;
        }
        fed -= n;
        return fed;
    }

    public int read() {
        int fault = reader.parse(tape, fed);
        fed = 0;
        faultPlace = reader.faultPlace;
        if (fault == 0) {
            Town told = reader.town;
            reader.town = town;
            town = told;
            town.finish();
            now.startIn(town);
            history.clear();
            notes.many = 0;
            letSlotsGo();
        }
        return fault;
    }

    private void letSlotsGo() {
        for (int i = 0; i < SLOTS; i++) {
            held[i] = false;
        }
    }

    public int place() {
        return faultPlace;
    }

    // ---- what there is

    public int corner(int corner, int what) {
        if (!town.hasCorner(corner)) {
            return NONE;
        }
        switch (what) {
            case 0:
                return town.dark[corner];
            case 1:
                return town.laneBits[corner];
            case 2:
                return town.degree[corner] == 0 ? NOTHING : town.laneAt(corner, now.signs[corner]);
            case 3:
                return corner == town.house ? 1 : 0;
            default:
                return NONE;
        }
    }

    public int lane(int lane, int what) {
        if (!town.hasLane(lane)) {
            return NONE;
        }
        switch (what) {
            case 0:
                return town.one[lane];
            case 1:
                return town.other[lane];
            case 2:
                return town.far[lane];
            default:
                return NONE;
        }
    }

    public int seeker(int seeker, int what) {
        if (!town.hasSeeker(seeker)) {
            return NONE;
        }
        switch (what) {
            case 0:
                return town.sense[seeker];
            case 1:
                return town.home[seeker];
            case 2:
                return now.whereabouts[seeker];
            default:
                return NONE;
        }
    }

    public int strays(int seeker, int corner) {
        if (!town.hasSeeker(seeker) || !town.hasCorner(corner)) {
            return NONE;
        }
        return town.quartersAstray(now, seeker, corner);
    }

    public int tells(int seeker, int miles, int what) {
        if (!town.hasSeeker(seeker) || miles < 0 || miles > 99 || what < 0 || what > 1) {
            return NONE;
        }
        return town.toldOfMiles(what == 0 ? ASKS : FEARS, now, seeker, miles);
    }

    // ---- what is done

    public int send(int seeker) {
        if (!town.hasSeeker(seeker) || now.isSold() || now.whereabouts[seeker] != HOME) {
            return NONE;
        }
        history.push(now);
        walks.goByLot(town, now, seeker, town.seed);
        if (walks.mayBuy(0)) {
            now.price = town.toldOfMiles(ASKS, now, seeker, walks.walked[0]);
            now.buyer = seeker;
            now.whereabouts[seeker] = BOUGHT;
        } else {
            now.whereabouts[seeker] = OUT;
        }
        return walks.at[0];
    }

    public boolean turn(int corner, int number) {
        if (!town.hasCorner(corner) || town.degree[corner] == 0 || number < 0 || number > MOST_SIGN) {
            return false;
        }
        if (now.signs[corner] == number) {
            return false;
        }
        history.push(now);
        now.signs[corner] = number;
        return true;
    }

    public boolean fog(boolean more) {
        int then = more ? now.fog + 1 : now.fog - 1;
        if (then < 0 || then > MOST_FOG) {
            return false;
        }
        history.push(now);
        now.fog = then;
        return true;
    }

    public boolean call(int seeker) {
        if (!town.hasSeeker(seeker) || now.whereabouts[seeker] != OUT) {
            return false;
        }
        history.push(now);
        now.whereabouts[seeker] = HOME;
        return true;
    }

    public int days(int n) {
        if (n < 0 || n > DAYS_AT_ONCE) {
            return NONE;
        }
        if (n > 0) {
            history.push(now);
        }
        for (int i = 0; i < n; i++) {
            town.passDay(now);
        }
        return now.day;
    }

    public boolean undo() {
        return history.pop(now);
    }

    // ---- what would be, over all CASES

    public int comes(int seeker) {
        return town.hasSeeker(seeker) ? comingCases(seeker, 0) : NONE;
    }

    public int may(int seeker) {
        return town.hasSeeker(seeker) ? buyingCases(now, seeker) : NONE;
    }

    public int straight(int seeker) {
        if (!town.hasSeeker(seeker)) {
            return NONE;
        }
        walks.goAllWays(town, now, seeker);
        int sum = 0;
        for (int n = 0; n < walks.many; n++) {
            if (walks.came(n) && walks.strayed[n] == 0) {
                sum += walks.cases[n];
            }
        }
        return sum;
    }

    public int miles(int seeker) {
        if (!town.hasSeeker(seeker)) {
            return NONE;
        }
        walks.goAllWays(town, now, seeker);
        int sum = 0;
        for (int n = 0; n < walks.many; n++) {
            sum += walks.cases[n] * walks.walked[n];
        }
        return sum;
    }

    public int passes(int seeker, int corner) {
        if (!town.hasSeeker(seeker) || !town.hasCorner(corner)) {
            return NONE;
        }
        walks.goAllWays(town, now, seeker);
        return walks.casesWith(walks.seen, 1 << corner);
    }

    public int never(int seeker) {
        if (!town.hasSeeker(seeker)) {
            return NONE;
        }
        walks.goAllWays(town, now, seeker);
        int seen = 0;
        for (int n = 0; n < walks.many; n++) {
            seen |= walks.seen[n];
        }
        return ((1 << town.corners) - 1) & ~seen;
    }

    public int worth(int seeker) {
        if (!town.hasSeeker(seeker)) {
            return NONE;
        }
        walks.goAllWays(town, now, seeker);
        int sum = 0;
        for (int n = 0; n < walks.many; n++) {
            if (walks.mayBuy(n)) {
                sum += walks.cases[n] * town.toldOfMiles(ASKS, now, seeker, walks.walked[n]);
            }
        }
        return sum;
    }

    public int afraid(int seeker, int v) {
        if (!town.hasSeeker(seeker) || v < 0 || v > MOST_MILES) {
            return NONE;
        }
        return comingCases(seeker, v);
    }

    /** FEARS is never below 0, so with fear 0 these are all who COME. */
    private int comingCases(int seeker, int fear) {
        walks.goAllWays(town, now, seeker);
        int sum = 0;
        for (int n = 0; n < walks.many; n++) {
            if (walks.came(n) && (fear == 0 || town.toldOfMiles(FEARS, now, seeker, walks.walked[n]) >= fear)) {
                sum += walks.cases[n];
            }
        }
        return sum;
    }

    public int span(int seeker, int what) {
        if (!town.hasSeeker(seeker) || what < 0 || what > 1) {
            return NONE;
        }
        walks.goAllWays(town, now, seeker);
        int best = NOTHING;
        for (int n = 0; n < walks.many; n++) {
            if (walks.mayBuy(n)) {
                int walked = walks.walked[n];
                if (best == NOTHING || (what == 0 ? walked < best : walked > best)) {
                    best = walked;
                }
            }
        }
        return best;
    }

    public int uses(int seeker, int lane) {
        if (!town.hasSeeker(seeker) || !town.hasLane(lane)) {
            return NONE;
        }
        walks.goAllWays(town, now, seeker);
        return walks.casesWith(walks.used, 1 << lane);
    }

    public int twice(int seeker) {
        if (!town.hasSeeker(seeker)) {
            return NONE;
        }
        walks.goAllWays(town, now, seeker);
        int sum = 0;
        for (int n = 0; n < walks.many; n++) {
            if (walks.again[n]) {
                sum += walks.cases[n];
            }
        }
        return sum;
    }

    private int buyingCases(State state, int seeker) {
        walks.goAllWays(town, state, seeker);
        int sum = 0;
        for (int n = 0; n < walks.many; n++) {
            if (walks.mayBuy(n)) {
                sum += walks.cases[n];
            }
        }
        return sum;
    }

    // ---- what would be best

    public int clearest(int seeker, int what) {
        if (!town.hasSeeker(seeker) || what < 0 || what > 1) {
            return NONE;
        }
        guess.copyFrom(now);
        int which = 0;
        int most = NONE;
        for (int fog = 0; fog <= MOST_FOG; fog++) {
            guess.fog = fog;
            int much = buyingCases(guess, seeker);
            if (much > most) {
                most = much;
                which = fog;
            }
        }
        return what == 0 ? which : most;
    }

    public int waits(int seeker, int n, int what) {
        if (!town.hasSeeker(seeker) || n < 0 || n > DAYS_TO_WAIT || what < 0 || what > 1) {
            return NONE;
        }
        guess.copyFrom(now);
        int which = 0;
        int most = NONE;
        for (int days = 0; days <= n; days++) {
            int much = buyingCases(guess, seeker);
            if (much > most) {
                most = much;
                which = days;
            }
            town.passDay(guess);
        }
        return what == 0 ? which : most;
    }

    public int needed(int seeker) {
        if (!town.hasSeeker(seeker)) {
            return NONE;
        }
        int from = town.home[seeker];
        int bits = 0;
        if (town.reachesHouse(from, NONE)) {
            for (int lane = 0; lane < town.lanes; lane++) {
                if (!town.reachesHouse(from, lane)) {
                    bits |= 1 << lane;
                }
            }
        }
        return bits;
    }

    public int turned(int seeker, boolean best, int what) {
        if (!town.hasSeeker(seeker) || what < 0 || what > 1) {
            return NONE;
        }
        guess.copyFrom(now);
        int which = NOTHING;
        int most = buyingCases(now, seeker);
        for (int corner = 0; corner < town.corners; corner++) {
            for (int number = 0; number < town.degree[corner]; number++) {
                guess.signs[corner] = number;
                int much = buyingCases(guess, seeker);
                if (best ? much > most : much < most) {
                    most = much;
                    which = 10 * corner + number;
                }
            }
            guess.signs[corner] = now.signs[corner];
        }
        return what == 0 || which == NOTHING ? which : most;
    }

    public int lead(int seeker) {
        return town.hasSeeker(seeker) ? town.fewestTurns(now, town.home[seeker]) : NONE;
    }

    public int who() {
        int which = NOTHING;
        int most = NONE;
        for (int seeker = 0; seeker < town.seekers; seeker++) {
            if (now.whereabouts[seeker] == HOME) {
                int much = buyingCases(now, seeker);
                if (much > most) {
                    most = much;
                    which = seeker;
                }
            }
        }
        return which;
    }

    public int shortest(int corner) {
        return town.hasCorner(corner) ? town.milesToHouse[corner] : NONE;
    }

    // ---- what would be, by the SEED and by the days

    public int walk(int seeker, int what) {
        if (!town.hasSeeker(seeker) || what < 0 || what > 4) {
            return NONE;
        }
        walks.goByLot(town, now, seeker, town.seed);
        switch (what) {
            case 0:
                return walks.at[0];
            case 1:
                return walks.walked[0];
            case 2:
                return walks.steps[0];
            case 3:
                return walks.strayed[0];
            default:
                return walks.mayBuy(0) ? 1 : 0;
        }
    }

    public int fogIn(int n) {
        if (n < 0 || n > DAYS_AT_ONCE) {
            return NONE;
        }
        guess.copyFrom(now);
        for (int i = 0; i < n; i++) {
            town.passDay(guess);
        }
        return guess.fog;
    }

    public int year(int seeker, int s) {
        if (!town.hasSeeker(seeker) || s < 1 || s > SEEDS) {
            return NONE;
        }
        int many = 0;
        for (int i = 0; i < s; i++) {
            walks.goByLot(town, now, seeker, town.seed + i);
            if (walks.mayBuy(0)) {
                many++;
            }
        }
        return many;
    }

    // ---- which way one came

    public int tell(int seeker, int i, int corner, boolean so) {
        if (!town.hasSeeker(seeker) || i < 0 || i > STEPS || !town.hasCorner(corner)) {
            return NONE;
        }
        return notes.add(seeker, i, corner, so);
    }

    public int forget() {
        int many = notes.many;
        notes.many = 0;
        return many;
    }

    public int ways(int k, int seeker, int what) {
        if (k < 0 || k > notes.many || !town.hasSeeker(seeker) || what < 0 || what > 2) {
            return NONE;
        }
        walks.goAllWays(town, now, seeker);
        int many = 0;
        int cases = 0;
        int likeliest = NOTHING;
        int most = 0;
        for (int n = 0; n < walks.many; n++) {
            if (notes.allow(k, seeker, walks, n)) {
                int much = walks.cases[n];
                many++;
                cases += much;
                if (much > most || much == most && walks.strayed[n] < likeliest) {
                    most = much;
                    likeliest = walks.strayed[n];
                }
            }
        }
        return what == 0 ? many : what == 1 ? cases : likeliest;
    }

    public int look(int k, int seeker) {
        if (k < 0 || k > notes.many || !town.hasSeeker(seeker)) {
            return NONE;
        }
        walks.goAllWays(town, now, seeker);
        notes.tally(k, seeker, walks);
        int which = NOTHING;
        int fewest = 0;
        for (int i = 1; i <= STEPS; i++) {
            int worst = notes.mostAlike(i);
            if (worst > 0 && (which == NOTHING || worst < fewest)) {
                fewest = worst;
                which = i;
            }
        }
        return which;
    }

    // ---- held, gone on from, counted

    public boolean hold(int slot) {
        if (slot < 0 || slot >= SLOTS) {
            return false;
        }
        slots[slot].copyFrom(now);
        held[slot] = true;
        return true;
    }

    public boolean restore(int slot) {
        if (slot < 0 || slot >= SLOTS || !held[slot]) {
            return false;
        }
        now.copyFrom(slots[slot]);
        history.clear();
        return true;
    }

    public int count(int what) {
        switch (what) {
            case 0:
                return town.corners;
            case 1:
                return town.lanes;
            case 2:
                return town.seekers;
            case 3:
                return now.day;
            case 4:
                return now.fog;
            case 5:
                return now.buyer;
            case 6:
                return now.price;
            case 7:
                return now.seekersWho(HOME, town.seekers);
            case 8:
                return fed;
            case 9:
                return history.many;
            case 10:
                return notes.many;
            case 11:
                return slotsHeld();
            case 12:
                return town.corners == 0 ? NOTHING : town.house;
            case 13:
                return now.seekersWho(OUT, town.seekers);
            case 14:
                return sumOf(town.far, town.lanes);
            case 15:
                return town.cornersWithoutLanes();
            case 16:
                return sumOf(town.dark, town.corners);
            default:
                return NONE;
        }
    }

    private int slotsHeld() {
        int many = 0;
        for (int i = 0; i < SLOTS; i++) {
            if (held[i]) {
                many++;
            }
        }
        return many;
    }

    private static int sumOf(int[] row, int many) {
        int sum = 0;
        for (int i = 0; i < many && i < row.length; i++) {
            sum += row[i];
        }
        return sum;
    }

    private static int within(int value, int most) {
        return value < 0 ? 0 : value > most ? most : value;
    }

    /** The TOKENS of a tape, up to the first that is none, or to the 401st. */
    private static final class Tokens {
        final int[] kind;
        final int[] start;
        /** An INT's number; a NAME's letters, a byte each, which fit as they are 8 at most. */
        final long[] value;

        Tokens() {
            kind = new int[TOKENS + 2];
            start = new int[TOKENS + 2];
            value = new long[TOKENS + 2];
        }

        void scan(byte[] bytes, int length) {
            int many = 0;
            int from = behindBlanks(bytes, 0, length);
            for (int n = 0; n <= TOKENS && from < length; n++) {
                start[n] = from;
                int end = scanOne(n, bytes, length);
                many = n + 1;
                if (kind[n] == KIND_BAD) {
                    break;
                }
                from = behindBlanks(bytes, end, length);
            }
            kind[many] = KIND_END;
            start[many] = length;
        }

        private static int behindBlanks(byte[] bytes, int from, int length) {
            int i = from;
            while (i < length && (bytes[i] == 9 || bytes[i] == 10 || bytes[i] == 13 || bytes[i] == 32)) {
                i++;
            }
            return i;
        }

        private int scanOne(int n, byte[] bytes, int length) {
            int from = start[n];
            int sign = bytes[from] & 255;
            if (sign >= 'a' && sign <= 'z') {
                return scanLetters(n, bytes, length);
            }
            if (sign >= '0' && sign <= '9') {
                return scanDigits(n, bytes, length);
            }
            kind[n] = SIGNS.indexOf((char) sign) >= 0 ? sign : KIND_BAD;
            return from + 1;
        }

        private int scanLetters(int n, byte[] bytes, int length) {
            int from = start[n];
            int end = from;
            long letters = 0;
            while (end < length && bytes[end] >= 'a' && bytes[end] <= 'z') {
                letters = letters << 8 | bytes[end];
                end++;
            }
            value[n] = letters;
            if (end - from > 8) {
                kind[n] = KIND_BAD;
            } else {
                int word = wordAt(bytes, from, end - from);
                kind[n] = word == NONE ? KIND_NAME : KIND_WORD + word;
            }
            return end;
        }

        private int scanDigits(int n, byte[] bytes, int length) {
            int from = start[n];
            int end = from;
            long number = 0;
            while (end < length && bytes[end] >= '0' && bytes[end] <= '9') {
                number = number * 10 + (bytes[end] - '0');
                end++;
            }
            value[n] = number;
            kind[n] = end - from > 4 ? KIND_BAD : KIND_INT;
            return end;
        }

        private static int wordAt(byte[] bytes, int from, int length) {
            int word = 0;
            int alike = 0;
            for (int i = 0; i < WORDS.length(); i++) {
                char letter = WORDS.charAt(i);
                if (letter == ' ') {
                    if (alike == length) {
                        return word;
                    }
                    word++;
                    alike = 0;
                } else if (alike >= 0 && alike < length && bytes[from + alike] == letter) {
                    alike++;
                } else {
                    alike = NONE;
                }
            }
            return NONE;
        }
    }

    /** Reads a tape into a town. */
    private static final class Reader {
        int faultPlace;
        /** Not the one that goes on, so that a FAULT leaves that as it was. */
        Town town;
        private final Tokens tokens;
        private int at;
        /** The FAULT at the TOKEN where the parse stops, if it does. */
        private int hard;
        /** The first FAULT of those that count only in a text that parses. */
        private int soft;
        private int softPlace;
        private final long[] cornerNames;
        private final long[] seekerNames;
        private int posts;

        Reader() {
            faultPlace = NONE;
            tokens = new Tokens();
            town = new Town();
            cornerNames = new long[CORNERS];
            seekerNames = new long[SEEKERS];
        }

        int parse(byte[] tape, int length) {
            tokens.scan(tape, length);
            town.clear();
            at = 0;
            posts = 0;
            hard = SYNTAX;
            soft = 0;
            softPlace = NONE;
            for (int n = 0; n <= TOKENS && tokens.kind[at] != KIND_END; n++) {
                if (!readTell()) {
                    faultPlace = tokens.start[at];
                    return hard;
                }
            }
            faultPlace = softPlace;
            return soft;
        }

        private boolean readTell() {
            int kind = tokens.kind[at];
            switch (kind) {
                case KIND_CORNER:
                    return readCorner();
                case KIND_LANE:
                    return readLane();
                case KIND_HOUSE:
                    return readHouse();
                case KIND_POST:
                    return readPost();
                case KIND_SEEKER:
                    return readSeeker();
                case KIND_WRONG:
                case KIND_MIST:
                case KIND_SEED:
                    return readNumber(kind);
                default:
                    return kind >= KIND_LAW && kind < KIND_LAW + LAWS && readLaw(kind);
            }
        }

        private boolean take(int kind) {
            if (tokens.kind[at] != kind) {
                return false;
            }
            if (at >= TOKENS) {
                hard = ROOM;
                return false;
            }
            at++;
            return true;
        }

        private boolean noRoom() {
            hard = ROOM;
            return false;
        }

        private boolean readCorner() {
            int from = at;
            int corner = town.corners;
            if (corner >= CORNERS) {
                return noRoom();
            }
            if (!(take(KIND_CORNER) && take(KIND_NAME) && take(KIND_INT) && take(';'))) {
                return false;
            }
            checkNew(from + 1);
            cornerNames[corner] = tokens.value[from + 1];
            town.dark[corner] = numberAt(from + 2, 0, 9);
            town.corners++;
            return true;
        }

        private boolean readLane() {
            int from = at;
            int lane = town.lanes;
            if (lane >= LANES) {
                return noRoom();
            }
            if (!(take(KIND_LANE) && take(KIND_NAME) && take(KIND_NAME) && take(KIND_INT) && take(';'))) {
                return false;
            }
            town.one[lane] = cornerAt(from + 1);
            town.other[lane] = cornerAt(from + 2);
            if (town.one[lane] == town.other[lane]) {
                note(TWICE, from + 2);
            }
            town.far[lane] = numberAt(from + 3, 1, 9);
            town.lanes++;
            return true;
        }

        private boolean readHouse() {
            int from = at;
            if (!(take(KIND_HOUSE) && take(KIND_NAME) && take(';'))) {
                return false;
            }
            town.house = cornerAt(from + 1);
            return true;
        }

        private boolean readPost() {
            int from = at;
            if (posts >= POSTS) {
                return noRoom();
            }
            if (!(take(KIND_POST) && take(KIND_NAME) && take(KIND_INT) && take(';'))) {
                return false;
            }
            int corner = cornerAt(from + 1);
            int number = numberAt(from + 2, 0, MOST_SIGN);
            if (corner != NONE) {
                town.post[corner] = number;
            }
            posts++;
            return true;
        }

        private boolean readSeeker() {
            int from = at;
            int seeker = town.seekers;
            if (seeker >= SEEKERS) {
                return noRoom();
            }
            if (!(take(KIND_SEEKER) && take(KIND_NAME) && take(KIND_INT) && take(KIND_NAME) && take(';'))) {
                return false;
            }
            checkNew(from + 1);
            seekerNames[seeker] = tokens.value[from + 1];
            town.sense[seeker] = numberAt(from + 2, 0, 9);
            town.home[seeker] = cornerAt(from + 3);
            town.seekers++;
            return true;
        }

        private boolean readNumber(int kind) {
            int from = at;
            if (!(take(kind) && take(KIND_INT) && take(';'))) {
                return false;
            }
            if (kind == KIND_WRONG) {
                town.wrong = numberAt(from + 1, 0, 99);
            } else if (kind == KIND_MIST) {
                town.mist = numberAt(from + 1, 0, MOST_FOG);
            } else {
                town.seed = numberAt(from + 1, 0, 9999);
            }
            return true;
        }

        private boolean readLaw(int kind) {
            Laws laws = town.laws;
            int begin = laws.size;
            if (!(take(kind) && take('='))) {
                return false;
            }
            for (int ifs = 0; ifs <= IFS && tokens.kind[at] == KIND_IF; ifs++) {
                if (ifs >= IFS) {
                    return noRoom();
                }
                if (!(take(KIND_IF) && readSum(0) && take('<') && readSum(0) && take(KIND_THEN))) {
                    return false;
                }
                int jump = laws.size;
                laws.emit('<', 0);
                if (!(readSum(0) && take(KIND_ELSE))) {
                    return false;
                }
                laws.emit(';', 0);
                laws.aim(jump);
            }
            if (!(readSum(0) && take(';'))) {
                return false;
            }
            laws.emit(';', 0);
            laws.begin[kind - KIND_LAW] = begin;
            return true;
        }

        private boolean readSum(int depth) {
            if (!readProduct(depth)) {
                return false;
            }
            for (int n = 0; n <= TOKENS; n++) {
                int sign = tokens.kind[at];
                if (sign != '+' && sign != '-') {
                    break;
                }
                if (!(take(sign) && readProduct(depth))) {
                    return false;
                }
                town.laws.emit(sign, 0);
            }
            return true;
        }

        private boolean readProduct(int depth) {
            if (!readUnit(depth)) {
                return false;
            }
            for (int n = 0; n <= TOKENS; n++) {
                int sign = tokens.kind[at];
                if (sign != '*' && sign != '/') {
                    break;
                }
                if (!(take(sign) && readUnit(depth))) {
                    return false;
                }
                town.laws.emit(sign, 0);
            }
            return true;
        }

        private boolean readUnit(int depth) {
            int kind = tokens.kind[at];
            if (kind == '(') {
                if (depth >= BRACKETS) {
                    return noRoom();
                }
                return take('(') && readSum(depth + 1) && take(')');
            }
            if (kind == KIND_INT) {
                town.laws.emit('n', (int) tokens.value[at]);
                return take(KIND_INT);
            }
            if (kind >= KIND_VAR && kind < KIND_VAR + VARS) {
                town.laws.emit('v', kind - KIND_VAR);
                return take(kind);
            }
            return false;
        }

        private void note(int fault, int token) {
            if (soft == 0) {
                soft = fault;
                softPlace = tokens.start[token];
            }
        }

        private int numberAt(int token, int least, int most) {
            int number = (int) tokens.value[token];
            if (number < least || number > most) {
                note(WRONG, token);
            }
            return number;
        }

        private int cornerAt(int token) {
            int corner = indexOf(tokens.value[token], cornerNames, town.corners);
            if (corner == NONE) {
                note(NAME, token);
            }
            return corner;
        }

        private void checkNew(int token) {
            long name = tokens.value[token];
            if (indexOf(name, cornerNames, town.corners) != NONE
                    || indexOf(name, seekerNames, town.seekers) != NONE) {
                note(TWICE, token);
            }
        }

        private static int indexOf(long name, long[] names, int many) {
            for (int i = 0; i < many && i < names.length; i++) {
                if (names[i] == name) {
                    return i;
                }
            }
            return NONE;
        }
    }

    /**
     * The LAWS as told, each in postfix, ';' being its end. '<' takes two numbers and, if the
     * first is not less, goes on at what it aims at, which stands always further behind.
     */
    private static final class Laws {
        final int[] begin;
        int size;
        private final int[] act;
        private final int[] with;
        private final int[] stack;
        private final int[] vars;

        Laws() {
            begin = new int[LAWS];
            act = new int[TOKENS];
            with = new int[TOKENS];
            // two numbers can wait at each depth of brackets, and one ahead of '<'
            stack = new int[2 * (BRACKETS + 1) + 2];
            vars = new int[VARS];
            clear();
        }

        void clear() {
            size = 0;
            Arrays.fill(begin, NONE);
        }

        void emit(int what, int number) {
            if (size < TOKENS) {
                act[size] = what;
                with[size] = number;
                size++;
            }
        }

        void aim(int jump) {
            if (jump >= 0 && jump < size) {
                with[jump] = size;
            }
        }

        boolean isTold(int law) {
            return begin[law] != NONE;
        }

        /** The VARS that every LAW has; all others are 0 till they are set. */
        void setScene(State state) {
            Arrays.fill(vars, 0);
            vars[FOG] = state.fog;
            vars[DAY] = state.day;
            vars[SOLD] = state.isSold() ? 1 : 0;
        }

        void set(int var, int value) {
            vars[var] = value;
        }

        int outcome(int law) {
            int depth = 0;
            int i = begin[law];
            for (int n = 0; n < TOKENS && i >= 0 && i < size; n++) {
                int what = act[i];
                int next = i + 1;
                if (what == 'n' || what == 'v') {
                    if (depth >= stack.length) {
                        return 0;
                    }
                    stack[depth] = what == 'n' ? with[i] : vars[with[i]];
                    depth++;
                } else if (what == ';') {
                    return depth > 0 ? stack[depth - 1] : 0;
                } else {
                    if (depth < 2) {
                        return 0;
                    }
                    int left = stack[depth - 2];
                    int right = stack[depth - 1];
                    if (what == '/' && right == 0) {
                        return 0;
                    }
                    if (what == '<') {
                        depth -= 2;
                        if (left >= right) {
                            next = with[i];
                        }
                    } else {
                        depth--;
                        stack[depth - 1] = joined(what, left, right);
                    }
                }
                i = next;
            }
            return 0;
        }

        private static int joined(int sign, int left, int right) {
            if (sign == '+') {
                return left + right;
            }
            if (sign == '-') {
                return left - right;
            }
            if (sign == '*') {
                return left * right;
            }
            return right == 0 ? 0 : left / right;
        }
    }

    /** What a text tells: this stays as it is till the next text. */
    private static final class Town {
        int corners;
        int lanes;
        int seekers;
        final int[] dark;
        final int[] one;
        final int[] other;
        final int[] far;
        final int[] sense;
        final int[] home;
        final int[] post;
        int house;
        int wrong;
        int mist;
        int seed;
        final Laws laws;
        final int[] degree;
        final int[] laneBits;
        /** LANES rows' places for each CORNER, of which the first degree[corner] count. */
        final int[] lanesOf;
        final int[] milesToHouse;
        private final int[] cost;

        Town() {
            dark = new int[CORNERS];
            one = new int[LANES];
            other = new int[LANES];
            far = new int[LANES];
            sense = new int[SEEKERS];
            home = new int[SEEKERS];
            post = new int[CORNERS];
            laws = new Laws();
            degree = new int[CORNERS];
            laneBits = new int[CORNERS];
            lanesOf = new int[CORNERS * LANES];
            milesToHouse = new int[CORNERS];
            cost = new int[CORNERS];
            clear();
        }

        void clear() {
            corners = 0;
            lanes = 0;
            seekers = 0;
            house = 0;
            wrong = 1;
            mist = 0;
            seed = 0;
            laws.clear();
            Arrays.fill(post, 0);
        }

        boolean hasCorner(int corner) {
            return corner >= 0 && corner < corners;
        }

        boolean hasLane(int lane) {
            return lane >= 0 && lane < lanes;
        }

        boolean hasSeeker(int seeker) {
            return seeker >= 0 && seeker < seekers;
        }

        /** Only for a text without FAULT: each LANE has two CORNERS, and the HOUSE has one. */
        void finish() {
            Arrays.fill(degree, 0);
            Arrays.fill(laneBits, 0);
            for (int lane = 0; lane < lanes; lane++) {
                addLaneTo(one[lane], lane);
                addLaneTo(other[lane], lane);
            }
            for (int corner = 0; corner < CORNERS; corner++) {
                milesToHouse[corner] = corner == house ? 0 : NOTHING;
            }
            for (int round = 0; round < corners; round++) {
                for (int lane = 0; lane < lanes; lane++) {
                    shorten(milesToHouse, one[lane], other[lane], far[lane]);
                    shorten(milesToHouse, other[lane], one[lane], far[lane]);
                }
            }
        }

        private void addLaneTo(int corner, int lane) {
            if (hasCorner(corner) && degree[corner] < LANES) {
                lanesOf[corner * LANES + degree[corner]] = lane;
                degree[corner]++;
                laneBits[corner] |= 1 << lane;
            }
        }

        /** Lets a CORNER's way go over a neighbour, if that is less; NOTHING is no way. */
        private static void shorten(int[] ways, int corner, int over, int more) {
            if (ways[over] != NOTHING && (ways[corner] == NOTHING || ways[over] + more < ways[corner])) {
                ways[corner] = ways[over] + more;
            }
        }

        /** The LANE at a place among its CORNER's, counted round; NONE without LANES. */
        int laneAt(int corner, int place) {
            int many = degree[corner];
            return many == 0 ? NONE : lanesOf[corner * LANES + place % many];
        }

        int farEnd(int lane, int corner) {
            return one[lane] == corner ? other[lane] : one[lane];
        }

        int cornersWithoutLanes() {
            int bits = 0;
            for (int corner = 0; corner < corners; corner++) {
                if (degree[corner] == 0) {
                    bits |= 1 << corner;
                }
            }
            return bits;
        }

        int quartersAstray(State state, int seeker, int corner) {
            int shown = laneAt(corner, state.signs[corner]);
            if (shown == NONE) {
                return 0;
            }
            if (!laws.isTold(STRAYS)) {
                return 1;
            }
            laws.setScene(state);
            laws.set(SENSE, sense[seeker]);
            laws.set(DARK, dark[corner]);
            laws.set(LONG, far[shown]);
            laws.set(MANY_LANES, degree[corner]);
            laws.set(WHICH, seeker);
            return within(laws.outcome(STRAYS), QUARTERS);
        }

        /** ASKS or FEARS. */
        int toldOfMiles(int law, State state, int seeker, int miles) {
            if (!laws.isTold(law)) {
                return miles;
            }
            laws.setScene(state);
            laws.set(SENSE, sense[seeker]);
            laws.set(MILES, miles);
            laws.set(WHICH, seeker);
            return within(laws.outcome(law), MOST_MILES);
        }

        void passDay(State state) {
            if (laws.isTold(THICKENS)) {
                laws.setScene(state);
                state.fog = within(laws.outcome(THICKENS), MOST_FOG);
            }
            state.day++;
        }

        boolean reachesHouse(int from, int withoutLane) {
            int reached = 1 << from;
            for (int round = 0; round < corners; round++) {
                for (int lane = 0; lane < lanes; lane++) {
                    int ends = 1 << one[lane] | 1 << other[lane];
                    if (lane != withoutLane && (reached & ends) != 0) {
                        reached |= ends;
                    }
                }
            }
            return (reached & 1 << house) != 0;
        }

        /**
         * The way with fewest LANES that no SIGN shows: it needs no CORNER twice, so each of
         * its SIGNS can be turned to it, and it takes fewer STEPS than a WALK has.
         */
        int fewestTurns(State state, int from) {
            for (int corner = 0; corner < CORNERS; corner++) {
                cost[corner] = corner == house ? 0 : NOTHING;
            }
            for (int round = 0; round < corners; round++) {
                for (int lane = 0; lane < lanes; lane++) {
                    int a = one[lane];
                    int b = other[lane];
                    shorten(cost, a, b, laneAt(a, state.signs[a]) == lane ? 0 : 1);
                    shorten(cost, b, a, laneAt(b, state.signs[b]) == lane ? 0 : 1);
                }
            }
            return cost[from];
        }
    }

    /** What goes on. */
    private static final class State {
        int day;
        int fog;
        int buyer;
        int price;
        final int[] signs;
        final int[] whereabouts;

        State() {
            buyer = NOTHING;
            signs = new int[CORNERS];
            whereabouts = new int[SEEKERS];
        }

        void startIn(Town town) {
            day = 0;
            fog = town.mist;
            buyer = NOTHING;
            price = 0;
            System.arraycopy(town.post, 0, signs, 0, CORNERS);
            Arrays.fill(whereabouts, HOME);
        }

        void copyFrom(State from) {
            day = from.day;
            fog = from.fog;
            buyer = from.buyer;
            price = from.price;
            System.arraycopy(from.signs, 0, signs, 0, CORNERS);
            System.arraycopy(from.whereabouts, 0, whereabouts, 0, SEEKERS);
        }

        boolean isSold() {
            return buyer != NOTHING;
        }

        int seekersWho(int are, int seekers) {
            int bits = 0;
            for (int seeker = 0; seeker < seekers && seeker < SEEKERS; seeker++) {
                if (whereabouts[seeker] == are) {
                    bits |= 1 << seeker;
                }
            }
            return bits;
        }
    }

    /** The states ahead of the last things done, in a ring. */
    private static final class History {
        int many;
        private int next;
        private final State[] states;

        History() {
            states = new State[UNDONE];
            for (int i = 0; i < UNDONE; i++) {
                states[i] = new State();
            }
        }

        void clear() {
            many = 0;
        }

        void push(State state) {
            states[next].copyFrom(state);
            next = (next + 1) % UNDONE;
            if (many < UNDONE) {
                many++;
            }
        }

        boolean pop(State state) {
            if (many == 0) {
                return false;
            }
            many--;
            next = (next + UNDONE - 1) % UNDONE;
            state.copyFrom(states[next]);
            return true;
        }
    }

    /**
     * WALKS of a SEEKER: a row each, and in how many CASES it is walked. Two rows never have
     * the same STEPS STRAYED, as two WALKS part where one STRAYS and the other does not.
     */
    private static final class Walks {
        int many;
        final int[] at;
        final int[] walked;
        final int[] steps;
        final int[] strayed;
        final int[] cases;
        final int[] seen;
        final int[] used;
        final boolean[] again;
        /** The CORNER behind each number of STEPS, CORNER_BITS a piece. */
        private final int[] path;
        private final int[] quarters;
        private final boolean[] ends;
        /** Two for each CORNER, of one who does not STRAY there, and of one who does. */
        private final int[] takes;
        private final int[] leads;
        private final int[] far;
        private int house;
        private int enough;

        Walks() {
            at = new int[WALKS];
            walked = new int[WALKS];
            steps = new int[WALKS];
            strayed = new int[WALKS];
            cases = new int[WALKS];
            seen = new int[WALKS];
            used = new int[WALKS];
            again = new boolean[WALKS];
            path = new int[WALKS];
            quarters = new int[CORNERS];
            ends = new boolean[CORNERS];
            takes = new int[2 * CORNERS];
            leads = new int[2 * CORNERS];
            far = new int[2 * CORNERS];
        }

        void goAllWays(Town town, State state, int seeker) {
            setOut(town, state, seeker);
            for (int step = 0; step < STEPS; step++) {
                int before = many;
                for (int n = 0; n < before; n++) {
                    if (!ends[at[n]]) {
                        part(n);
                    }
                }
            }
        }

        void goByLot(Town town, State state, int seeker, int seed) {
            setOut(town, state, seeker);
            int which = 64 * state.day + 8 * seeker;
            for (int step = 0; step < STEPS && !ends[at[0]]; step++) {
                move(0, lot(QUARTERS, seed, which + step) < quarters[at[0]]);
            }
        }

        boolean came(int n) {
            return at[n] == house;
        }

        boolean mayBuy(int n) {
            return at[n] == house && strayed[n] != 0 && walked[n] >= enough;
        }

        int casesWith(int[] row, int bit) {
            int sum = 0;
            for (int n = 0; n < many; n++) {
                if ((row[n] & bit) != 0) {
                    sum += cases[n];
                }
            }
            return sum;
        }

        /** Behind more STEPS than were walked one is where the WALK ended. */
        int whereBehind(int n, int i) {
            return path[n] >>> CORNER_BITS * Math.min(i, steps[n]) & (1 << CORNER_BITS) - 1;
        }

        private void setOut(Town town, State state, int seeker) {
            int from = town.home[seeker];
            house = town.house;
            enough = town.milesToHouse[from] + town.wrong;
            for (int corner = 0; corner < town.corners; corner++) {
                ends[corner] = corner == house || town.degree[corner] == 0;
                if (!ends[corner]) {
                    quarters[corner] = town.quartersAstray(state, seeker, corner);
                    learn(town, corner, state.signs[corner], 0);
                    learn(town, corner, state.signs[corner] + 1, 1);
                }
            }
            many = 1;
            at[0] = from;
            walked[0] = 0;
            steps[0] = 0;
            strayed[0] = 0;
            cases[0] = CASES;
            seen[0] = 1 << from;
            used[0] = 0;
            again[0] = false;
            path[0] = from;
        }

        private void learn(Town town, int corner, int place, int stray) {
            int lane = town.laneAt(corner, place);
            if (lane != NONE) {
                takes[2 * corner + stray] = lane;
                leads[2 * corner + stray] = town.farEnd(lane, corner);
                far[2 * corner + stray] = town.far[lane];
            }
        }

        /** The row goes on without STRAYING; if one can do either, a new row goes STRAYING. */
        private void part(int n) {
            int chance = quarters[at[n]];
            if (chance > 0 && chance < QUARTERS && many < WALKS) {
                copyRow(n, many);
                int quarter = cases[n] / QUARTERS;
                cases[many] = quarter * chance;
                cases[n] = quarter * (QUARTERS - chance);
                move(many, true);
                many++;
            }
            move(n, chance == QUARTERS);
        }

        private void copyRow(int from, int to) {
            at[to] = at[from];
            walked[to] = walked[from];
            steps[to] = steps[from];
            strayed[to] = strayed[from];
            seen[to] = seen[from];
            used[to] = used[from];
            again[to] = again[from];
            path[to] = path[from];
        }

        private void move(int n, boolean stray) {
            int way = 2 * at[n] + (stray ? 1 : 0);
            int to = leads[way];
            if (stray) {
                strayed[n] |= 1 << steps[n];
            }
            steps[n]++;
            at[n] = to;
            walked[n] += far[way];
            used[n] |= 1 << takes[way];
            again[n] |= (seen[n] & 1 << to) != 0;
            seen[n] |= 1 << to;
            path[n] |= to << CORNER_BITS * steps[n];
        }

        private static int lot(int n, int seed, int which) {
            int h = stirred(stirred(seed, 187), which);
            return n <= 0 ? 0 : (h >>> 1) % n;
        }

        private static int stirred(int h, int with) {
            int stirred = (h ^ with) * 1103515245 + 12345;
            return stirred ^ stirred >>> 15;
        }
    }

    /** What is TOLD of where boots were seen. */
    private static final class Notes {
        int many;
        private final int[] who;
        private final int[] steps;
        private final int[] where;
        private final boolean[] so;
        /** For each number of STEPS, how many WAYS there are by each CORNER behind it. */
        private final int[] alike;

        Notes() {
            who = new int[NOTES];
            steps = new int[NOTES];
            where = new int[NOTES];
            so = new boolean[NOTES];
            alike = new int[(STEPS + 1) * CORNERS];
        }

        int add(int seeker, int i, int corner, boolean is) {
            if (many >= NOTES) {
                return NONE;
            }
            who[many] = seeker;
            steps[many] = i;
            where[many] = corner;
            so[many] = is;
            many++;
            return many - 1;
        }

        boolean allow(int k, int seeker, Walks walks, int n) {
            for (int j = 0; j < k && j < many; j++) {
                if (who[j] == seeker && (walks.whereBehind(n, steps[j]) == where[j]) != so[j]) {
                    return false;
                }
            }
            return true;
        }

        void tally(int k, int seeker, Walks walks) {
            Arrays.fill(alike, 0);
            for (int n = 0; n < walks.many; n++) {
                if (allow(k, seeker, walks, n)) {
                    for (int i = 1; i <= STEPS; i++) {
                        alike[i * CORNERS + walks.whereBehind(n, i)]++;
                    }
                }
            }
        }

        int mostAlike(int i) {
            int most = 0;
            for (int corner = 0; corner < CORNERS; corner++) {
                most = Math.max(most, alike[i * CORNERS + corner]);
            }
            return most;
        }
    }
}
