import java.util.Arrays;

/**
 * A town of corners and streets, and the rings by which one who has gone out comes home by
 * streets not gone yet. What each call does is told in the document, promise by promise.
 */
public final class HomeByAnotherWay {
    public static final int NONE = -1, BAD = -2, STATE = -3, FULL = -4;
    public static final long NO = -4611686018427387904L;

    private static final int NO_SUCH = -5, NO_WHAT = -7, FAULT = -100;
    private static final int MISSING = -11, OUTSIDE = -12, UNLIKE = -13, BELOW_ZERO = -14;

    private static final int CORNERS = 9, ALL_CORNERS = (1 << CORNERS) - 1;
    private static final int STREETS = 12, STREETS_AND_LANE = STREETS + 1;
    private static final int HOURS = 24, NOON = 12;
    private static final int MOST_MINUTES = 99;
    private static final int TEXTS = 6, TAPE_BYTES = 160;
    private static final int SHEETS = 4, SHEET_NUMBERS = 40, SHEET_STREETS = 10;
    private static final int MOST_SEED = 99999, MOST_SEEDS = 50;

    private static final int ONEWAY = 1, STEPS = 2, BRIDGE = 3, SUNNY = 4, GATE = 5, CORNER = 6;
    private static final int WALK = 0, CARRY = 1, MAY = 2;
    private static final int INTS = 2;

    /** A need that no walk meets: no corner has this bit. */
    private static final int NOWHERE = 1 << CORNERS;

    private static final String FIRST_TEXT = "walk base ; carry base + more ; may 1 ;";

    private final Settings now = new Settings();
    private final Settings kept = new Settings();
    private final Settings guess = new Settings();
    private boolean imaged;
    private final Streets streets = new Streets();
    private final Tape tape = new Tape();
    private final Texts texts = new Texts();
    private final Ways ways = new Ways();
    private final Search search = new Search();
    private final Stroll stroll = new Stroll();
    private final Sheet[] sheets = new Sheet[SHEETS];

    public HomeByAnotherWay() {
        now.hour = 8;
        for (int s = 0; s < SHEETS; s++) sheets[s] = new Sheet();
        for (int i = 0; i < FIRST_TEXT.length(); i++) tape.put(FIRST_TEXT.charAt(i));
        tape.read();
        texts.add(tape);
        tape.size = 0;
    }

    // ---- the town, the law

    public int set(int what, int v) {
        if (what < 0 || what > 2) return NONE;
        int top = what == 0 ? CORNERS : what == 1 ? HOURS : 2;
        if (v < 0 || v >= top) return BAD;
        int was = count(what);
        if (what == 0) now.home = v;
        else if (what == 1) now.hour = v;
        else now.once = v;
        return was;
    }

    public int count(int what) {
        switch (what) {
            case 0: return now.home;
            case 1: return now.hour;
            case 2: return now.once;
            case 3: return now.streets;
            case 4: return now.been;
            case 5: return texts.many;
            case 6: return now.law;
            case 7: return tape.size;
            default: return BAD;
        }
    }

    public int feed(int n, int a, int b, int c, int d, int e) {
        if (n < 1 || n > 5) return BAD;
        if (!isByte(a) || !isByte(b) || !isByte(c) || !isByte(d) || !isByte(e)) return BAD;
        if (tape.size + n > TAPE_BYTES) return FULL;
        tape.put(a);
        if (n > 1) tape.put(b);
        if (n > 2) tape.put(c);
        if (n > 3) tape.put(d);
        if (n > 4) tape.put(e);
        return tape.size;
    }

    public int text() {
        if (texts.many >= TEXTS) return FULL;
        int fault = tape.read();
        tape.size = 0;
        return fault >= 0 ? FAULT - fault : texts.add(tape);
    }

    public int force(int t) {
        if (t < 0 || t >= texts.many) return BAD;
        int was = now.law;
        now.law = t;
        return was;
    }

    public int street(int kind, int ends, int base, int more) {
        if (kind < 0 || kind > GATE || ends < 0) return BAD;
        int one = ends / 10, other = ends % 10;
        if (!isCorner(one) || !isCorner(other) || one == other) return BAD;
        if (base < 1 || base > 99 || more < 0 || more > 99) return BAD;
        if (now.streets >= STREETS) return FULL;
        streets.put(now.streets, kind, one, other, base, more);
        return now.streets++;
    }

    public int close() {
        if (now.streets == 0) return STATE;
        now.streets--;
        now.been &= ~(1 << now.streets);
        if (kept.streets > now.streets) imaged = false;
        return now.streets;
    }

    public int told(int s, int what) {
        if (!isStreet(s)) return NO_SUCH;
        switch (what) {
            case 0: return streets.kind[s];
            case 1: return streets.one[s];
            case 2: return streets.other[s];
            case 3: return streets.base[s];
            case 4: return streets.more[s];
            case 5: return streets.spentBy(s, now.streets);
            default: return NO_WHAT;
        }
    }

    public int gone(int set) {
        if (set < 0 || set >= 1 << now.streets) return BAD;
        int was = now.been;
        now.been = set;
        return was;
    }

    public int asks(int s, int from, int what) {
        if (!isStreet(s) || !streets.endsAt(s, from)) return NO_SUCH;
        if (what < 0 || what > 3) return NO_WHAT;
        ways.lay(now, streets, texts);
        int load = what & 1;
        return what < 2 ? ways.open(from, load) >> s & 1 : ways.minutes(s, from, load);
    }

    // ---- rings

    public int ring(int c, int what) {
        int no = refusal(c, what, 4);
        return no < 0 ? no : leastRing(now, 1 << c, 0, what);
    }

    public int heavy(int c, int what) {
        int no = refusal(c, what, 4);
        return no < 0 ? no : leastRing(now, 1 << c, 1 << c, what);
    }

    public int gap(int c) {
        if (!isAway(c)) return NO_SUCH;
        int light = leastRing(now, 1 << c, 0, 0), laden = leastRing(now, 1 << c, 1 << c, 0);
        return light < 0 || laden < 0 ? -1 : laden - light;
    }

    public int calls(int set, int heavy, int what) {
        if (!areCorners(set)) return BAD;
        if (heavy != -1 && (!isAway(heavy) || (set >> heavy & 1) == 0)) return NO_SUCH;
        if (what < 0 || what > 3) return NO_WHAT;
        return leastRing(now, set, heavy < 0 ? 0 : 1 << heavy, what);
    }

    public int two(int set, int others, int what) {
        int home = 1 << now.home;
        if (!areCorners(set) || !areCorners(others)) return BAD;
        if ((set & ~home) == 0 || (others & ~home) == 0) return BAD;
        if (what < 0 || what > 1) return NO_WHAT;
        look(now, NOWHERE, 0);
        int both = search.leastTwo(set, others, now.streets);
        if (both < 0 || what == 0) return both;
        int all = search.least(set | others);
        return all < 0 ? -1 : both - search.minutes(all);
    }

    public int round(int what) {
        return what < 0 || what > 3 ? BAD : leastRing(now, 0, 0, what);
    }

    // ---- places without, streets that bar

    public int never(int what) {
        if (what < 0 || what > 2) return BAD;
        int ringed = ringed(now);
        if (what == 0) return ringed;
        int reached = ways.reached();
        return what == 1 ? reached & ~ringed & ~(1 << now.home) : ALL_CORNERS & ~reached;
    }

    public int bars(int c) {
        if (!isAway(c)) return NO_SUCH;
        look(now, 1 << c, 0);
        return search.least(1 << c) < 0 ? STATE : search.shared(1 << c);
    }

    public int bears() {
        int ringed = ringed(now), bears = 0;
        for (int s = 0; s < now.streets; s++) {
            if (search.ringedWithout(s) != ringed) bears |= 1 << s;
        }
        return bears;
    }

    public int part(int c) {
        if (!isCorner(c)) return NO_SUCH;
        guess.take(now);
        guess.home = c;
        return ringed(guess);
    }

    public int house(int set, int what) {
        if (!areCorners(set)) return BAD;
        if (what < 0 || what > 1) return NO_WHAT;
        int best = -1, fewest = -1;
        for (int c = 0; c < CORNERS; c++) {
            int minutes = minutesFrom(c, set);
            if (minutes >= 0 && (best < 0 || minutes < fewest)) {
                best = c;
                fewest = minutes;
            }
        }
        return what == 0 ? best : fewest;
    }

    // ---- lanes

    public int lane(int takes, int what) {
        if (takes < 1 || takes > MOST_MINUTES) return BAD;
        if (what < 0 || what > 1) return NO_WHAT;
        int ringed = ringed(now), most = Integer.bitCount(ringed), best = -1;
        for (int a = 0; a < CORNERS; a++) {
            for (int b = a + 1; b < CORNERS; b++) {
                int many = Integer.bitCount(ringed | search.ringedByLane(ways, a, b));
                if (many > most) {
                    most = many;
                    best = 10 * a + b;
                }
            }
        }
        return what == 0 ? best : most;
    }

    public int newly() {
        int many = now.streets, bonds = streets.bonds(many), left = streets.built(many);
        int parts = 0, free = 0, leaves = 0;
        for (int c = 0; c < CORNERS; c++) {
            if ((left >> c & 1) == 0) continue;
            int part = streets.joined(1 << c, ~bonds, many);
            int ends = streets.ending(part, bonds, many);
            left &= ~part;
            parts++;
            if (ends == 0) free++;
            if (ends == 1) leaves++;
        }
        return parts < 2 ? 0 : free + (leaves + 1) / 2;
    }

    public int bond(int c, int what) {
        if (!isCorner(c)) return NO_SUCH;
        if (what < 0 || what > 1) return NO_WHAT;
        int bonds = streets.bonds(now.streets);
        return what == 0 ? bonds : streets.joined(1 << c, ~bonds, now.streets);
    }

    // ---- hours, texts

    public int hours(int c, int what) {
        int no = refusal(c, what, 2);
        if (no < 0) return no;
        // From hour to hour only a text that names the hour, and noon, can change a ring.
        boolean named = texts.names(now.law, Tape.HOUR);
        int hours = 0, best = -1, fewest = 0, minutes = -1;
        guess.take(now);
        for (int hour = 0; hour < HOURS; hour++) {
            guess.hour = hour;
            if (named || hour == 0 || hour == NOON) minutes = leastRing(guess, 1 << c, 0, 0);
            if (minutes < 0) continue;
            hours |= 1 << hour;
            if (best < 0 || minutes < fewest) {
                best = hour;
                fewest = minutes;
            }
        }
        return what == 0 ? hours : best;
    }

    public int laws(int c) {
        if (!isAway(c)) return NO_SUCH;
        int laws = 0;
        guess.take(now);
        for (int t = 0; t < texts.many; t++) {
            guess.law = t;
            if (leastRing(guess, 1 << c, 0, 0) >= 0) laws |= 1 << t;
        }
        return laws;
    }

    // ---- walks

    public int judge(int s) {
        if (!isSheet(s)) return BAD;
        return sheets[s].isMissing() ? MISSING : follow(sheets[s]);
    }

    public int walk(int s, int what) {
        if (!isSheet(s)) return BAD;
        if (sheets[s].isMissing()) return MISSING;
        if (what < 0 || what > 1) return NO_WHAT;
        follow(sheets[s]);
        return what == 0 ? stroll.minutes : stroll.corner();
    }

    public int show(int c, int s) {
        if (!isAway(c)) return NO_SUCH;
        if (!isSheet(s)) return BAD;
        look(now, 1 << c, 0);
        int ring = search.least(1 << c);
        if (ring < 0) return -1;
        int many = Integer.bitCount(ring);
        sheets[s].become(INTS, many);
        for (int i = 0; i < many; i++) sheets[s].put(i, search.streetAt(ring, i));
        return many;
    }

    public int drawn(int seed, int what) {
        if (seed < 0 || seed > MOST_SEED || what < 0 || what > 2) return BAD;
        ways.lay(now, streets, texts);
        stray(seed);
        return what == 0 ? stroll.minutes : what == 1 ? stroll.corner() : stroll.many;
    }

    public long odds(int seed, int seeds, int mode, int part) {
        if (seed < 0 || seed > MOST_SEED || seeds < 1 || seeds > MOST_SEEDS) return NO;
        if (mode < 0 || mode > 1 || part < 0 || part > 1) return NO;
        ways.lay(now, streets, texts);
        int above = 0;
        for (int i = 0; i < seeds; i++) {
            stray(seed + i);
            if (mode == 1) above += stroll.many;
            else if (stroll.many > 0 && stroll.corner() == now.home) above++;
        }
        int shared = commonDivisor(above, seeds);
        return (part == 0 ? above : seeds) / shared;
    }

    public int image() {
        kept.take(now);
        imaged = true;
        return kept.streets;
    }

    public int back() {
        if (!imaged) return STATE;
        now.take(kept);
        return now.streets;
    }

    // ---- the host

    public int sheet(int s, int sort, int n) {
        if (!isSheet(s) || sort < -1 || sort > INTS) return BAD;
        if (sort >= 0 && n > SHEET_NUMBERS) return BAD;
        if (sort >= 0 && n < 0) return BELOW_ZERO;
        sheets[s].become(sort, sort < 0 ? 0 : n);
        return 1;
    }

    public int cell(int s, int i, int v) {
        if (!isSheet(s)) return BAD;
        if (sheets[s].isMissing()) return MISSING;
        if (i < 0 || i >= sheets[s].size) return OUTSIDE;
        sheets[s].put(i, v);
        return 1;
    }

    public int copy(int s, int i, int other, int j, int n) {
        if (!isSheet(s) || !isSheet(other)) return BAD;
        Sheet from = sheets[s], to = sheets[other];
        if (from.isMissing() || to.isMissing()) return MISSING;
        if (from.sort != to.sort) return UNLIKE;
        if (!from.holds(i, n) || !to.holds(j, n)) return OUTSIDE;
        System.arraycopy(from.numbers, i, to.numbers, j, n);
        return n;
    }

    public int streetsBy(int s, int sort, int at, int n) {
        if (!isSheet(s) || sort < 0 || sort > INTS || n < 0 || n > SHEET_STREETS) return BAD;
        Sheet from = sheets[s];
        if (from.isMissing()) return MISSING;
        if (from.sort != sort) return UNLIKE;
        int came = 0, i = at;
        for (int k = 0; k < n; k++) {
            if (!from.holds(i, 4)) return OUTSIDE;
            int[] row = from.numbers;
            if (street(row[i], row[i + 1], row[i + 2], row[i + 3]) >= 0) came++;
            i += 4;
        }
        return came;
    }

    public int taken(int i, int kind) {
        if (kind < 0 || kind > CORNER) return BAD;
        if (i < 0 || i >= CORNERS + STREETS) return OUTSIDE;
        int s = i - CORNERS, many = now.streets;
        if (s < 0) return kind == CORNER ? streets.ending(1 << i, -1, many) : UNLIKE;
        if (s >= many) return MISSING;
        return streets.isA(s, kind) ? s : UNLIKE;
    }

    // ---- what the calls share

    private static boolean isByte(int v) {
        return v >= 0 && v <= 255;
    }

    private static boolean isCorner(int c) {
        return c >= 0 && c < CORNERS;
    }

    private static boolean areCorners(int set) {
        return set >= 0 && set <= ALL_CORNERS;
    }

    private static boolean isSheet(int s) {
        return s >= 0 && s < SHEETS;
    }

    private boolean isStreet(int s) {
        return s >= 0 && s < now.streets;
    }

    private boolean isAway(int c) {
        return isCorner(c) && c != now.home;
    }

    private int refusal(int c, int what, int whats) {
        if (!isAway(c)) return NO_SUCH;
        return what < 0 || what >= whats ? NO_WHAT : 0;
    }

    private void look(Settings town, int need, int heavy) {
        ways.lay(town, streets, texts);
        search.seek(ways, need, heavy);
    }

    private int leastRing(Settings town, int need, int heavy, int what) {
        ways.lay(town, streets, texts);
        if ((need & ~ways.reached()) != 0) return -1;
        search.seek(ways, need, heavy);
        int ring = search.least(need);
        if (ring < 0) return -1;
        switch (what) {
            case 0: return search.minutes(ring);
            case 1: return ring;
            case 2: return search.streetAt(ring, 0);
            default: return Integer.bitCount(ring);
        }
    }

    private int ringed(Settings town) {
        look(town, NOWHERE, 0);
        return search.ringedWithout(-1);
    }

    /** The minutes of all least rings from a home to each corner of a set, or -1. */
    private int minutesFrom(int home, int set) {
        guess.take(now);
        guess.home = home;
        look(guess, NOWHERE, 0);
        int minutes = 0;
        for (int c = 0; c < CORNERS; c++) {
            if (c == home || (set >> c & 1) == 0) continue;
            int ring = search.least(1 << c);
            if (ring < 0) return -1;
            minutes += search.minutes(ring);
        }
        return minutes;
    }

    /** Walks what a sheet tells, as far as can be; the place of what can't be, or -1. */
    private int follow(Sheet sheet) {
        ways.lay(now, streets, texts);
        stroll.begin(ways);
        for (int i = 0; i < sheet.size; i++) {
            int s = sheet.numbers[i];
            if (!isStreet(s) || (ways.next(stroll.state, 0) >> s & 1) == 0) return i;
            // What comes home to end there may have nothing told behind it, not even what is none.
            if (i < sheet.size - 1 && ways.ends(stroll.state, s)) return i;
            stroll.go(ways, s);
        }
        return -1;
    }

    private void stray(int seed) {
        stroll.begin(ways);
        long lot = seed + 1L;
        for (int i = 0; i < STREETS; i++) {
            int may = ways.next(stroll.state, 0), many = Integer.bitCount(may);
            if (many == 0 || i > 0 && stroll.corner() == now.home) return;
            lot = lot * 48271 % 2147483647;
            stroll.go(ways, pick(may, (int) (lot % many)));
        }
    }

    private static int pick(int set, int number) {
        int left = number;
        for (int s = 0; s < STREETS; s++) {
            if ((set >> s & 1) != 0 && left-- == 0) return s;
        }
        return 0;
    }

    /** The greatest; of a number from 0 on, and one from 1 to 50. */
    private static int commonDivisor(int above, int below) {
        for (int d = below; d > 1; d--) {
            if (above % d == 0 && below % d == 0) return d;
        }
        return 1;
    }

    /** All that an image keeps; copies of it serve for what would be, were it otherwise. */
    private static final class Settings {
        int home, hour, once, been, streets, law;

        void take(Settings from) {
            home = from.home;
            hour = from.hour;
            once = from.once;
            been = from.been;
            streets = from.streets;
            law = from.law;
        }
    }

    /** A row of numbers of a sort, or missing. */
    private static final class Sheet {
        final int[] numbers = new int[SHEET_NUMBERS];
        int sort = -1, size;

        boolean isMissing() {
            return sort < 0;
        }

        void become(int itsSort, int itsSize) {
            sort = itsSort;
            size = Math.max(0, Math.min(SHEET_NUMBERS, itsSize));
            Arrays.fill(numbers, 0);
        }

        void put(int i, int v) {
            if (i < 0 || i >= size) return;
            numbers[i] = sort == 0 ? (byte) v : sort == 1 ? (short) v : v;
        }

        boolean holds(int i, int n) {
            return i >= 0 && n >= 0 && i <= size - n;
        }
    }

    /** The streets as told, and what holds of them whatever the hour, the law and the home. */
    private static final class Streets {
        final int[] kind = new int[STREETS], one = new int[STREETS], other = new int[STREETS];
        final int[] base = new int[STREETS], more = new int[STREETS];

        void put(int s, int itsKind, int itsOne, int itsOther, int itsBase, int itsMore) {
            if (s < 0 || s >= STREETS) return;
            kind[s] = itsKind;
            one[s] = itsOne;
            other[s] = itsOther;
            base[s] = itsBase;
            more[s] = itsMore;
        }

        boolean endsAt(int s, int c) {
            return one[s] == c || other[s] == c;
        }

        boolean isA(int s, int as) {
            return as == 0 || kind[s] == as || as == BRIDGE && kind[s] == GATE;
        }

        int spentBy(int s, int many) {
            int spent = 1 << s;
            if (!isA(s, BRIDGE)) return spent;
            for (int t = 0; t < many; t++) {
                if (isA(t, BRIDGE) && more[t] == more[s]) spent |= 1 << t;
            }
            return spent;
        }

        boolean lets(int s, int from, int load, int hour) {
            switch (kind[s]) {
                case ONEWAY: return from == one[s];
                case STEPS: return load == 0;
                case GATE: return hour < NOON;
                default: return true;
            }
        }

        int lasts(int s, int from, int told, int hour) {
            int minutes = Math.max(1, Math.min(MOST_MINUTES, told));
            if (kind[s] == STEPS && from == other[s]) minutes *= 2;
            if (kind[s] == SUNNY && hour >= NOON) minutes += more[s];
            return Math.min(MOST_MINUTES, minutes);
        }

        int built(int many) {
            int built = 0;
            for (int s = 0; s < many; s++) built |= 1 << one[s] | 1 << other[s];
            return built;
        }

        /** How many of some streets end at some corners. */
        int ending(int corners, int set, int many) {
            int ends = 0;
            for (int s = 0; s < many; s++) {
                boolean there = ((corners >> one[s] | corners >> other[s]) & 1) != 0;
                if (there && (set >> s & 1) != 0) ends++;
            }
            return ends;
        }

        /** The corners to which some streets, gone either way, go from some corners. */
        int joined(int corners, int set, int many) {
            int joined = corners;
            for (int round = 1; round < CORNERS; round++) {
                for (int s = 0; s < many; s++) {
                    boolean there = ((joined >> one[s] | joined >> other[s]) & 1) != 0;
                    if (there && (set >> s & 1) != 0) joined |= 1 << one[s] | 1 << other[s];
                }
            }
            return joined;
        }

        int bonds(int many) {
            int bonds = 0;
            for (int s = 0; s < many; s++) {
                int joined = joined(1 << one[s], ~(1 << s), many);
                if ((joined >> other[s] & 1) == 0) bonds |= 1 << s;
            }
            return bonds;
        }
    }

    /** The tape, and the reading of a text from it into a row of code. */
    private static final class Tape {
        static final int END = 0, WRONG = 1, NUMBER = 2, MINUS_OF = 3;
        static final int FIRST_KEY = 256, OR = 259, AND = 260, NOT = 261;
        static final int BASE = 262, HOUR = 264, LAST_NAME = 267;
        static final String WORDS = " walk carry may or and not base more hour from to street ";
        static final String SIGNS = "();+-*<=";
        static final int MOST_OPEN = 5, MOST_DIGITS = 4;

        final int[] bytes = new int[TAPE_BYTES];
        int size;
        /** Numbers as they are; names and operators as their tokens below 0; operands ahead. */
        final int[] code = new int[TAPE_BYTES];
        final int[] ends = new int[3];
        private int length, place, next, token, number, fault;

        void put(int v) {
            if (size < TAPE_BYTES) bytes[size++] = v;
        }

        /** The place of the fault, or -1. */
        int read() {
            length = 0;
            next = 0;
            fault = -1;
            advance();
            for (int key = WALK; key <= MAY; key++) {
                expect(FIRST_KEY + key);
                either(0);
                expect(';');
                ends[key] = length;
            }
            if (token != END) refuse();
            return fault;
        }

        private void refuse() {
            if (fault < 0) fault = place;
            token = WRONG;
        }

        private void expect(int wanted) {
            if (token == wanted) advance();
            else refuse();
        }

        private void emit(int step) {
            if (length < TAPE_BYTES) code[length++] = step;
        }

        private int at(int i) {
            return i >= 0 && i < size ? bytes[i] : -1;
        }

        private boolean isLetter(int i) {
            return at(i) >= 'a' && at(i) <= 'z';
        }

        private boolean isDigit(int i) {
            return at(i) >= '0' && at(i) <= '9';
        }

        private void advance() {
            if (fault >= 0) return;
            place = next;
            while (place < size && (at(place) == 32 || at(place) == 10)) place++;
            next = place;
            if (place >= size) token = END;
            else if (isLetter(place)) token = wordToken();
            else if (isDigit(place)) token = numberToken();
            else token = signToken();
        }

        private int wordToken() {
            while (next < size && isLetter(next)) next++;
            int word = FIRST_KEY;
            for (int p = 0; p < WORDS.length() - 1; p++) {
                if (WORDS.charAt(p) != ' ') continue;
                if (isWord(p + 1)) return word;
                word++;
            }
            return WRONG;
        }

        private boolean isWord(int p) {
            int end = p + next - place;
            if (end >= WORDS.length() || WORDS.charAt(end) != ' ') return false;
            for (int i = p; i < end; i++) {
                if (WORDS.charAt(i) != at(place + i - p)) return false;
            }
            return true;
        }

        private int numberToken() {
            number = 0;
            while (next < size && isDigit(next)) {
                number = number * 10 + at(next) - '0';
                next++;
            }
            return next - place > MOST_DIGITS ? WRONG : NUMBER;
        }

        private int signToken() {
            next++;
            for (int i = 0; i < SIGNS.length(); i++) {
                if (SIGNS.charAt(i) == at(place)) return at(place);
            }
            return WRONG;
        }

        private void either(int open) {
            both(open);
            for (int i = 0; i < TAPE_BYTES && token == OR; i++) {
                advance();
                both(open);
                emit(-OR);
            }
        }

        private void both(int open) {
            denied(open);
            for (int i = 0; i < TAPE_BYTES && token == AND; i++) {
                advance();
                denied(open);
                emit(-AND);
            }
        }

        private void denied(int open) {
            int nots = openers(NOT, open);
            compared(open + nots);
            for (int i = 0; i < nots; i++) emit(-NOT);
        }

        /** Passes all that stand here of a token that opens one more each; how many they were. */
        private int openers(int opener, int open) {
            int many = 0;
            while (token == opener && open + many < MOST_OPEN) {
                advance();
                many++;
            }
            return many;
        }

        private void compared(int open) {
            sum(open);
            if (token != '<' && token != '=') return;
            int sign = token;
            advance();
            sum(open);
            emit(-sign);
        }

        private void sum(int open) {
            product(open);
            for (int i = 0; i < TAPE_BYTES && (token == '+' || token == '-'); i++) {
                int sign = token;
                advance();
                product(open);
                emit(-sign);
            }
        }

        private void product(int open) {
            signed(open);
            for (int i = 0; i < TAPE_BYTES && token == '*'; i++) {
                advance();
                signed(open);
                emit(-'*');
            }
        }

        private void signed(int open) {
            int minuses = openers('-', open);
            single(open + minuses);
            for (int i = 0; i < minuses; i++) emit(-MINUS_OF);
        }

        private void single(int open) {
            if (token == NUMBER) {
                emit(number);
                advance();
            } else if (token >= BASE && token <= LAST_NAME) {
                emit(-token);
                advance();
            } else if (token == '(' && open < MOST_OPEN) {
                advance();
                either(open + 1);
                expect(')');
            } else {
                refuse();
            }
        }
    }

    /** The texts that were read, and what they say. */
    private static final class Texts {
        /** More than the tape's longest text, all operands ahead of their operators, can need. */
        private static final int STACK = TAPE_BYTES;

        private final int[][] code = new int[TEXTS][TAPE_BYTES];
        private final int[][] ends = new int[TEXTS][3];
        private final int[] stack = new int[STACK];
        final int[] named = new int[Tape.LAST_NAME - Tape.BASE + 1];
        int many;

        int add(Tape tape) {
            if (many >= TEXTS) return FULL;
            System.arraycopy(tape.code, 0, code[many], 0, TAPE_BYTES);
            System.arraycopy(tape.ends, 0, ends[many], 0, 3);
            return many++;
        }

        boolean names(int t, int name) {
            if (t < 0 || t >= many) return false;
            for (int i = 0; i < ends[t][MAY]; i++) {
                if (code[t][i] == -name) return true;
            }
            return false;
        }

        void name(int base, int more, int hour, int from, int to, int street) {
            named[0] = base;
            named[1] = more;
            named[2] = hour;
            named[3] = from;
            named[4] = to;
            named[5] = street;
        }

        int value(int t, int key) {
            if (t < 0 || t >= many || key < WALK || key > MAY) return 0;
            int top = 0;
            for (int i = key == WALK ? 0 : ends[t][key - 1]; i < ends[t][key]; i++) {
                int token = -code[t][i];
                int operands = operands(token), first = top - operands;
                if (first < 0 || first >= STACK) return 0;
                if (token <= 0) stack[first] = -token;
                else if (operands == 0) stack[first] = named[token - Tape.BASE];
                else stack[first] = applied(token, stack[first], stack[top - 1]);
                top = first + 1;
            }
            return stack[0];
        }

        private static int operands(int token) {
            if (token <= 0 || token >= Tape.BASE && token <= Tape.LAST_NAME) return 0;
            return token == Tape.NOT || token == Tape.MINUS_OF ? 1 : 2;
        }

        private static int applied(int token, int a, int b) {
            switch (token) {
                case Tape.OR: return a != 0 || b != 0 ? 1 : 0;
                case Tape.AND: return a != 0 && b != 0 ? 1 : 0;
                case Tape.NOT: return a == 0 ? 1 : 0;
                case '<': return a < b ? 1 : 0;
                case '=': return a == b ? 1 : 0;
                case '+': return a + b;
                case '-': return a - b;
                case '*': return a * b;
                default: return -a;
            }
        }
    }

    /**
     * The town as one who walks finds it at an hour by a law: what may be gone, how long it
     * takes, and what may be next in a walk. A walk's state is one int: the corner at which it
     * is, the corners passed, the streets that are not there for it any more.
     */
    private static final class Ways {
        int home, many;
        private int been, once;
        private final int[] one = new int[STREETS_AND_LANE], other = new int[STREETS_AND_LANE];
        private final int[] spends = new int[STREETS_AND_LANE];
        /** By load and corner, with room for all that four bits of a state's corner can be. */
        private final int[] may = new int[32];
        private final int[] minutes = new int[32 * STREETS_AND_LANE];

        static int at(int state) {
            return state & 15;
        }

        static int passed(int state) {
            return state >> 4 & ALL_CORNERS;
        }

        static int spent(int state) {
            return state >> 4 + CORNERS;
        }

        void lay(Settings town, Streets streets, Texts texts) {
            home = town.home;
            been = town.been;
            once = town.once;
            many = Math.min(town.streets, STREETS);
            Arrays.fill(may, 0);
            for (int s = 0; s < many; s++) {
                one[s] = streets.one[s];
                other[s] = streets.other[s];
                spends[s] = streets.spentBy(s, many);
                price(s, one[s], town, streets, texts);
                price(s, other[s], town, streets, texts);
            }
        }

        private void price(int s, int from, Settings town, Streets streets, Texts texts) {
            texts.name(streets.base[s], streets.more[s], town.hour, from, across(s, from), s);
            boolean lawful = texts.value(town.law, MAY) != 0;
            for (int load = 0; load < 2; load++) {
                int place = load << 4 | from & 15;
                if (lawful && streets.lets(s, from, load, town.hour)) may[place] |= 1 << s;
                int told = texts.value(town.law, load == 0 ? WALK : CARRY);
                minutes[s << 5 | place] = streets.lasts(s, from, told, town.hour);
            }
        }

        private int across(int s, int from) {
            return from == one[s] ? other[s] : one[s];
        }

        int open(int from, int load) {
            return may[load << 4 | from & 15];
        }

        int minutes(int s, int from, int load) {
            return minutes[s << 5 | load << 4 | from & 15];
        }

        int start() {
            return home | 1 << home + 4 | been << 4 + CORNERS;
        }

        int after(int state, int s) {
            int to = one[s] + other[s] - (state & 15);
            return state & ~15 | to | 1 << to + 4 | spends[s] << 4 + CORNERS;
        }

        int next(int state, int load) {
            int at = at(state), passed = passed(state), next = open(at, load) & ~spent(state);
            if (once == 0) return next;
            if (at == home && passed != 1 << home) return 0;
            for (int s = 0; s <= many; s++) {
                int to = across(s, at);
                if (to != home && (passed >> to & 1) != 0) next &= ~(1 << s);
            }
            return next;
        }

        /** Whether a walk that goes a street next ends by it, whatever it is for. */
        boolean ends(int state, int s) {
            return once != 0 && across(s, at(state)) == home;
        }

        /** The corners to which a way goes from home, home too; none is spent on it. */
        int reached() {
            int reached = 1 << home;
            for (int round = 1; round < CORNERS; round++) {
                for (int s = 0; s < many; s++) {
                    if ((been >> s & 1) != 0) continue;
                    reached |= over(s, one[s], reached) | over(s, other[s], reached);
                }
            }
            return reached;
        }

        private int over(int s, int from, int reached) {
            boolean goes = (reached >> from & 1) != 0 && (open(from, 0) >> s & 1) != 0;
            return goes ? 1 << across(s, from) : 0;
        }

        /** The lane is the street behind the last. */
        void openLane(int a, int b) {
            one[many] = a;
            other[many] = b;
            spends[many] = 1 << many;
            may[a & 15] |= 1 << many;
            may[b & 15] |= 1 << many;
        }

        void closeLane(int a, int b) {
            may[a & 15] &= ~(1 << many);
            may[b & 15] &= ~(1 << many);
        }
    }

    /** A walk that is being gone, without a load. */
    private static final class Stroll {
        int state, minutes, many;

        void begin(Ways ways) {
            state = ways.start();
            minutes = 0;
            many = 0;
        }

        void go(Ways ways, int s) {
            minutes += ways.minutes(s, corner(), 0);
            state = ways.after(state, s);
            many++;
        }

        int corner() {
            return Ways.at(state);
        }
    }

    /**
     * All walks from home, by the set of streets that they have gone: where a walk is, what it
     * passed and what is spent follow from that set alone, so that of all walks with one set
     * only the least counts.
     */
    private static final class Search {
        private static final int SETS = 1 << STREETS_AND_LANE;
        private static final int UNSEEN = 0;
        /** A walk's key: its minutes, and below them its streets, four bits each, in order. */
        private static final int MINUTES_AT = 52, FIRST_AT = 48;
        private static final int NO_PAIR = 1 << 20;

        private final long[] key = new long[SETS];
        private final int[] state = new int[SETS];
        private final int[] queue = new int[SETS];
        private final int[] fewest = new int[1 << STREETS];
        private int tail, home;

        /** All walks; one that comes home having passed all that it needs ends there. */
        void seek(Ways ways, int need, int heavy) {
            forget(0);
            home = ways.home;
            key[0] = 0;
            state[0] = ways.start();
            queue[0] = 0;
            tail = 1;
            spread(ways, 0, need, heavy);
        }

        private void forget(int from) {
            for (int i = from; i < tail; i++) state[queue[i]] = UNSEEN;
            tail = from;
        }

        private void spread(Ways ways, int from, int need, int heavy) {
            for (int i = from; i < tail && i < SETS; i++) {
                int set = queue[i];
                if (isRing(set, need)) continue;
                int load = (Ways.passed(state[set]) & heavy) == 0 ? 0 : 1;
                int next = ways.next(state[set], load);
                for (int s = 0; s < ways.many; s++) {
                    if ((next >> s & 1) != 0) step(ways, set, s, load);
                }
            }
        }

        private void step(Ways ways, int set, int s, int load) {
            int to = set | 1 << s;
            if (to <= set || to >= SETS) return;
            long minutes = ways.minutes(s, Ways.at(state[set]), load), street = s;
            int place = FIRST_AT - 4 * Integer.bitCount(set);
            long its = key[set] + (minutes << MINUTES_AT) + (street << place);
            if (state[to] != UNSEEN) {
                key[to] = Math.min(key[to], its);
            } else if (tail < SETS) {
                key[to] = its;
                state[to] = ways.after(state[set], s);
                queue[tail++] = to;
            }
        }

        private boolean isRing(int set, int need) {
            return set != 0 && Ways.at(state[set]) == home && (need & ~Ways.passed(state[set])) == 0;
        }

        /** The set of the least ring to some corners, or -1. */
        int least(int need) {
            int least = -1;
            for (int i = 0; i < tail; i++) {
                int set = queue[i];
                if (isRing(set, need) && (least < 0 || key[set] < key[least])) least = set;
            }
            return least;
        }

        int minutes(int set) {
            return (int) (key[set] >>> MINUTES_AT);
        }

        int streetAt(int set, int i) {
            return (int) (key[set] >>> FIRST_AT - 4 * i) & 15;
        }

        /** The streets that all rings to some corners go. */
        int shared(int need) {
            int shared = -1;
            for (int i = 0; i < tail; i++) {
                if (isRing(queue[i], need)) shared &= queue[i];
            }
            return shared;
        }

        /** The corners to which there is a ring that does without a street (-1: any ring). */
        int ringedWithout(int s) {
            return ringedSince(0, s < 0 ? 0 : 1 << s);
        }

        private int ringedSince(int from, int without) {
            int ringed = 0;
            for (int i = from; i < tail; i++) {
                int set = queue[i];
                if ((set & without) == 0 && isRing(set, 0)) ringed |= Ways.passed(state[set]);
            }
            return ringed & ~(1 << home);
        }

        /** The corners to which a ring by a lane goes; the walks without it are sought ahead. */
        int ringedByLane(Ways ways, int a, int b) {
            int without = tail;
            ways.openLane(a, b);
            for (int i = 0; i < without; i++) {
                int set = queue[i];
                if ((ways.next(state[set], 0) >> ways.many & 1) != 0) step(ways, set, ways.many, 0);
            }
            ways.closeLane(a, b);
            spread(ways, without, NOWHERE, 0);
            int ringed = ringedSince(without, 0);
            forget(without);
            return ringed;
        }

        /** The minutes of the least two rings, or -1. */
        int leastTwo(int set, int others, int many) {
            int sets = 1 << Math.min(many, STREETS);
            fillFewest(others, sets);
            int least = NO_PAIR;
            for (int i = 0; i < tail; i++) {
                int ring = queue[i];
                if (!isRing(ring, set)) continue;
                int left = sets - 1 & ~Ways.spent(state[ring]);
                least = Math.min(least, minutes(ring) + fewest[left]);
            }
            return least >= NO_PAIR ? -1 : least;
        }

        /** For each set of streets the fewest minutes of a ring that goes these alone. */
        private void fillFewest(int need, int sets) {
            for (int set = 0; set < sets; set++) {
                boolean ring = state[set] != UNSEEN && isRing(set, need);
                fewest[set] = ring ? minutes(set) : NO_PAIR;
            }
            for (int bit = 1; bit < sets; bit <<= 1) {
                for (int set = 0; set < sets; set++) {
                    if ((set & bit) != 0) fewest[set] = Math.min(fewest[set], fewest[set ^ bit]);
                }
            }
        }
    }
}
