import java.util.ArrayDeque;
import java.util.ArrayList;
import java.util.Arrays;
import java.util.Deque;
import java.util.List;
import java.util.TreeSet;

/**
 * The document's town written down in the slowest and plainest way: walks are lists of streets,
 * all of them are tried one by one, and a text is cut apart anew each time it is asked. It shares
 * no line with the class it is held against, and is fit for small towns alone.
 */
final class PlainTown {
    static final int NONE = -1, BAD = -2, STATE = -3, FULL = -4;
    static final long NO = -4611686018427387904L;

    static final class Way {
        int kind, one, other, base, more;
        boolean lane;

        boolean bridge() {
            return kind == 3 || kind == 5;
        }
    }

    static final class Kept {
        int home, hour, once, streets, law;
        TreeSet<Integer> been;
    }

    int home = 0, hour = 8, once = 0, law = 0;
    TreeSet<Integer> been = new TreeSet<>();
    List<Way> ways = new ArrayList<>();
    List<Integer> tape = new ArrayList<>();
    List<List<List<String>>> texts = new ArrayList<>();
    Kept image = null;
    int[][] sheets = new int[4][];
    int[] sorts = {-1, -1, -1, -1};

    PlainTown() {
        texts.add(List.of(List.of("base"), List.of("base", "+", "more"), List.of("1")));
    }

    // ---- bits

    static TreeSet<Integer> unpack(int bits) {
        TreeSet<Integer> set = new TreeSet<>();
        for (int i = 0; i < 31; i++) if ((bits & (1 << i)) != 0) set.add(i);
        return set;
    }

    static int pack(Iterable<Integer> set) {
        int bits = 0;
        for (int i : set) bits |= 1 << i;
        return bits;
    }

    static boolean in(int v, int low, int high) {
        return low <= v && v <= high;
    }

    // ---- the town, the law

    int set(int what, int v) {
        if (!in(what, 0, 2)) return NONE;
        if (what == 0) {
            if (!in(v, 0, 8)) return BAD;
            int was = home;
            home = v;
            return was;
        }
        if (what == 1) {
            if (!in(v, 0, 23)) return BAD;
            int was = hour;
            hour = v;
            return was;
        }
        if (!in(v, 0, 1)) return BAD;
        int was = once;
        once = v;
        return was;
    }

    int count(int what) {
        int[] all = {home, hour, once, ways.size(), pack(been), texts.size(), law, tape.size()};
        return in(what, 0, 7) ? all[what] : BAD;
    }

    int feed(int n, int a, int b, int c, int d, int e) {
        int[] five = {a, b, c, d, e};
        if (!in(n, 1, 5)) return BAD;
        for (int v : five) if (!in(v, 0, 255)) return BAD;
        if (tape.size() + n > 160) return FULL;
        for (int i = 0; i < n; i++) tape.add(five[i]);
        return tape.size();
    }

    int text() {
        if (texts.size() == 6) return FULL;
        PlainText read = new PlainText(tape);
        tape.clear();
        if (read.fault >= 0) return -100 - read.fault;
        texts.add(read.parts);
        return texts.size() - 1;
    }

    int force(int t) {
        if (!in(t, 0, texts.size() - 1)) return BAD;
        int was = law;
        law = t;
        return was;
    }

    int street(int kind, int ends, int base, int more) {
        if (!in(kind, 0, 5) || !in(ends, 0, 88) || ends % 10 == 9 || ends / 10 == ends % 10) return BAD;
        if (!in(base, 1, 99) || !in(more, 0, 99)) return BAD;
        if (ways.size() == 12) return FULL;
        ways.add(way(kind, ends / 10, ends % 10, base, more));
        return ways.size() - 1;
    }

    static Way way(int kind, int one, int other, int base, int more) {
        Way way = new Way();
        way.kind = kind;
        way.one = one;
        way.other = other;
        way.base = base;
        way.more = more;
        return way;
    }

    int close() {
        if (ways.isEmpty()) return STATE;
        int last = ways.size() - 1;
        ways.remove(last);
        been.remove(last);
        if (image != null && image.streets > last) image = null;
        return ways.size();
    }

    int told(int s, int what) {
        if (!in(s, 0, ways.size() - 1)) return -5;
        Way w = ways.get(s);
        switch (what) {
            case 0: return w.kind;
            case 1: return w.one;
            case 2: return w.other;
            case 3: return w.base;
            case 4: return w.more;
            case 5: return pack(spends(s));
            default: return -7;
        }
    }

    int gone(int set) {
        if (set < 0) return BAD;
        for (int s : unpack(set)) if (s >= ways.size()) return BAD;
        int was = pack(been);
        been = unpack(set);
        return was;
    }

    int asks(int s, int from, int what) {
        if (!in(s, 0, ways.size() - 1)) return -5;
        if (ways.get(s).one != from && ways.get(s).other != from) return -5;
        switch (what) {
            case 0: return may(s, from, false) ? 1 : 0;
            case 1: return may(s, from, true) ? 1 : 0;
            case 2: return minutes(s, from, false);
            case 3: return minutes(s, from, true);
            default: return -7;
        }
    }

    TreeSet<Integer> spends(int s) {
        TreeSet<Integer> spent = new TreeSet<>();
        spent.add(s);
        if (ways.get(s).bridge()) {
            for (int t = 0; t < ways.size(); t++) {
                if (ways.get(t).bridge() && ways.get(t).more == ways.get(s).more) spent.add(t);
            }
        }
        return spent;
    }

    int across(int s, int from) {
        return ways.get(s).one == from ? ways.get(s).other : ways.get(s).one;
    }

    int says(int part, int s, int from) {
        Way w = ways.get(s);
        int[] names = {w.base, w.more, hour, from, across(s, from), s};
        return PlainText.value(texts.get(law).get(part), names);
    }

    boolean may(int s, int from, boolean load) {
        Way w = ways.get(s);
        if (w.lane) return true;
        if (says(2, s, from) == 0) return false;
        if (w.kind == 1 && from != w.one) return false;
        if (w.kind == 2 && load) return false;
        return w.kind != 5 || hour < 12;
    }

    int minutes(int s, int from, boolean load) {
        Way w = ways.get(s);
        if (w.lane) return w.base;
        int m = says(load ? 1 : 0, s, from);
        if (m < 1) m = 1;
        if (m > 99) m = 99;
        if (w.kind == 2 && from == w.other) m = m + m;
        if (w.kind == 4 && hour > 11) m = m + w.more;
        return m > 99 ? 99 : m;
    }

    // ---- rings

    final class Walk {
        List<Integer> streets = new ArrayList<>();
        List<Integer> corners = new ArrayList<>();
        int minutes = 0;

        Walk() {
            corners.add(home);
        }

        int at() {
            return corners.get(corners.size() - 1);
        }

        boolean ended() {
            return once == 1 && !streets.isEmpty() && at() == home;
        }

        boolean may(int s, boolean load) {
            if (s < 0 || s >= ways.size() || ended() || been.contains(s)) return false;
            for (int g : streets) if (spends(g).contains(s)) return false;
            Way w = ways.get(s);
            if (w.one != at() && w.other != at()) return false;
            if (!PlainTown.this.may(s, at(), load)) return false;
            int to = across(s, at());
            return once == 0 || to == home || !corners.contains(to);
        }

        void go(int s, boolean load) {
            minutes += PlainTown.this.minutes(s, at(), load);
            streets.add(s);
            corners.add(across(s, at()));
        }

        void undo(int before) {
            minutes = before;
            streets.remove(streets.size() - 1);
            corners.remove(corners.size() - 1);
        }
    }

    static final class Ring {
        List<Integer> streets;
        int minutes;

        boolean less(Ring other) {
            if (minutes != other.minutes) return minutes < other.minutes;
            for (int i = 0; i < Math.min(streets.size(), other.streets.size()); i++) {
                int c = Integer.compare(streets.get(i), other.streets.get(i));
                if (c != 0) return c < 0;
            }
            throw new IllegalStateException("a ring within a ring");
        }
    }

    List<Ring> rings(TreeSet<Integer> need, int heavy) {
        List<Ring> found = new ArrayList<>();
        rings(new Walk(), need, heavy, false, found);
        return found;
    }

    boolean rings(Walk walk, TreeSet<Integer> need, int heavy, boolean oneWillDo, List<Ring> found) {
        boolean load = heavy >= 0 && walk.corners.contains(heavy);
        for (int s = 0; s < ways.size(); s++) {
            if (!walk.may(s, load)) continue;
            int before = walk.minutes;
            walk.go(s, load);
            if (walk.at() == home && walk.corners.containsAll(need)) {
                Ring ring = new Ring();
                ring.streets = new ArrayList<>(walk.streets);
                ring.minutes = walk.minutes;
                found.add(ring);
            } else {
                rings(walk, need, heavy, oneWillDo, found);
            }
            walk.undo(before);
            if (oneWillDo && !found.isEmpty()) return true;
        }
        return false;
    }

    boolean isRing(int c) {
        List<Ring> found = new ArrayList<>();
        rings(new Walk(), unpack(1 << c), -1, true, found);
        return !found.isEmpty();
    }

    Ring least(int need, int heavy) {
        Ring best = null;
        for (Ring r : rings(unpack(need & ~(1 << home)), heavy)) if (best == null || r.less(best)) best = r;
        return best;
    }

    int answer(Ring ring, int what) {
        if (ring == null) return -1;
        int[] all = {ring.minutes, pack(ring.streets), ring.streets.get(0), ring.streets.size()};
        return all[what];
    }

    int ring(int c, int what) {
        if (!in(c, 0, 8) || c == home) return -5;
        if (!in(what, 0, 3)) return -7;
        return answer(least(1 << c, -1), what);
    }

    int heavy(int c, int what) {
        if (!in(c, 0, 8) || c == home) return -5;
        if (!in(what, 0, 3)) return -7;
        return answer(least(1 << c, c), what);
    }

    int gap(int c) {
        if (!in(c, 0, 8) || c == home) return -5;
        Ring light = least(1 << c, -1), laden = least(1 << c, c);
        return light == null || laden == null ? -1 : laden.minutes - light.minutes;
    }

    int calls(int set, int heavy, int what) {
        if (!in(set, 0, 511)) return BAD;
        if (heavy != -1 && (!unpack(set).contains(heavy) || heavy == home)) return -5;
        if (!in(what, 0, 3)) return -7;
        return answer(least(set, heavy), what);
    }

    int two(int set, int others, int what) {
        for (int bits : new int[] {set, others}) {
            if (!in(bits, 0, 511)) return BAD;
            if ((bits & ~(1 << home)) == 0) return BAD;
        }
        if (!in(what, 0, 1)) return -7;
        int both = leastTwo(set, others);
        if (both < 0) return -1;
        if (what == 0) return both;
        Ring all = least(set | others, -1);
        return all == null ? -1 : both - all.minutes;
    }

    int leastTwo(int set, int others) {
        int best = -1;
        TreeSet<Integer> kept = been;
        int[] seconds = new int[1 << ways.size()];
        Arrays.fill(seconds, -2);
        for (Ring first : rings(unpack(set & ~(1 << home)), -1)) {
            been = new TreeSet<>(kept);
            for (int s : first.streets) been.addAll(spends(s));
            int away = pack(been);
            if (seconds[away] == -2) seconds[away] = answer(least(others, -1), 0);
            if (seconds[away] >= 0 && (best < 0 || first.minutes + seconds[away] < best)) {
                best = first.minutes + seconds[away];
            }
            been = kept;
        }
        return best;
    }

    int round(int what) {
        return in(what, 0, 3) ? answer(least(0, -1), what) : BAD;
    }

    // ---- places without, streets that bar

    int ringed() {
        int set = 0;
        for (int c = 0; c < 9; c++) if (c != home && isRing(c)) set |= 1 << c;
        return set;
    }

    int reached() {
        Deque<Integer> todo = new ArrayDeque<>();
        TreeSet<Integer> seen = new TreeSet<>();
        todo.add(home);
        seen.add(home);
        while (!todo.isEmpty()) {
            int c = todo.poll();
            for (int s = 0; s < ways.size(); s++) {
                Way w = ways.get(s);
                if (w.one != c && w.other != c || been.contains(s) || !may(s, c, false)) continue;
                if (seen.add(across(s, c))) todo.add(across(s, c));
            }
        }
        return pack(seen);
    }

    int never(int what) {
        if (!in(what, 0, 2)) return BAD;
        int ringed = ringed(), reached = reached(), answer = 0;
        for (int c = 0; c < 9; c++) {
            if (c == home) continue;
            int its = (ringed >> c & 1) == 1 ? 0 : (reached >> c & 1) == 1 ? 1 : 2;
            if (its == what) answer |= 1 << c;
        }
        return answer;
    }

    int bars(int c) {
        if (!in(c, 0, 8) || c == home) return -5;
        if (!isRing(c)) return STATE;
        int bars = 0;
        for (int s = 0; s < ways.size(); s++) {
            boolean was = !been.add(s);
            if (!isRing(c)) bars |= 1 << s;
            if (!was) been.remove(s);
        }
        return bars;
    }

    int bears() {
        int bears = 0, ringed = ringed();
        for (int s = 0; s < ways.size(); s++) {
            boolean was = !been.add(s);
            if (ringed() != ringed) bears |= 1 << s;
            if (!was) been.remove(s);
        }
        return bears;
    }

    int part(int c) {
        if (!in(c, 0, 8)) return -5;
        int was = home;
        home = c;
        int answer = ringed();
        home = was;
        return answer;
    }

    int house(int set, int what) {
        if (!in(set, 0, 511)) return BAD;
        if (!in(what, 0, 1)) return -7;
        int was = home, best = -1, fewest = -1;
        for (home = 0; home < 9; home++) {
            int sum = 0;
            for (int c : unpack(set)) {
                if (c == home) continue;
                Ring ring = least(1 << c, -1);
                if (ring == null) {
                    sum = -1;
                    break;
                }
                sum += ring.minutes;
            }
            if (sum >= 0 && (best < 0 || sum < fewest)) {
                best = home;
                fewest = sum;
            }
        }
        home = was;
        return what == 0 ? best : fewest;
    }

    // ---- lanes

    int lane(int takes, int what) {
        if (!in(takes, 1, 99)) return BAD;
        if (!in(what, 0, 1)) return -7;
        int most = Integer.bitCount(ringed()), best = -1;
        for (int pair = 0; pair < 90; pair++) {
            int a = pair / 10, b = pair % 10;
            if (a >= b || b > 8) continue;
            Way lane = way(0, a, b, takes, 0);
            lane.lane = true;
            ways.add(lane);
            int many = Integer.bitCount(ringed());
            ways.remove(ways.size() - 1);
            if (many > most) {
                most = many;
                best = pair;
            }
        }
        return what == 0 ? best : most;
    }

    boolean joined(int from, int to, TreeSet<Integer> without) {
        TreeSet<Integer> seen = new TreeSet<>();
        Deque<Integer> todo = new ArrayDeque<>();
        seen.add(from);
        todo.add(from);
        while (!todo.isEmpty()) {
            int c = todo.poll();
            for (int s = 0; s < ways.size(); s++) {
                if (without.contains(s)) continue;
                Way w = ways.get(s);
                if ((w.one == c || w.other == c) && seen.add(across(s, c))) todo.add(across(s, c));
            }
        }
        return seen.contains(to);
    }

    TreeSet<Integer> bonds() {
        TreeSet<Integer> bonds = new TreeSet<>();
        for (int s = 0; s < ways.size(); s++) {
            if (!joined(ways.get(s).one, ways.get(s).other, unpack(1 << s))) bonds.add(s);
        }
        return bonds;
    }

    int partOf(int c) {
        int part = 0;
        for (int d = 0; d < 9; d++) if (joined(c, d, bonds())) part |= 1 << d;
        return part;
    }

    boolean allOnePart() {
        TreeSet<Integer> parts = new TreeSet<>();
        for (Way w : ways) {
            parts.add(partOf(w.one));
            parts.add(partOf(w.other));
        }
        return parts.size() < 2;
    }

    int newly() {
        if (allOnePart()) return 0;
        TreeSet<Integer> parts = new TreeSet<>();
        for (Way w : ways) {
            parts.add(partOf(w.one));
            parts.add(partOf(w.other));
        }
        int none = 0, single = 0;
        for (int part : parts) {
            int bonds = 0;
            for (int s : bonds()) {
                if (unpack(part).contains(ways.get(s).one) || unpack(part).contains(ways.get(s).other)) bonds++;
            }
            if (bonds == 0) none++;
            if (bonds == 1) single++;
        }
        return none + (single % 2 == 0 ? single / 2 : single / 2 + 1);
    }

    int bond(int c, int what) {
        if (!in(c, 0, 8)) return -5;
        if (!in(what, 0, 1)) return -7;
        return what == 0 ? pack(bonds()) : partOf(c);
    }

    // ---- hours, texts

    int hours(int c, int what) {
        if (!in(c, 0, 8) || c == home) return -5;
        if (!in(what, 0, 1)) return -7;
        int was = hour, hours = 0, best = -1, fewest = Integer.MAX_VALUE;
        for (hour = 0; hour < 24; hour++) {
            Ring ring = least(1 << c, -1);
            if (ring == null) continue;
            hours |= 1 << hour;
            if (ring.minutes < fewest) {
                fewest = ring.minutes;
                best = hour;
            }
        }
        hour = was;
        return what == 0 ? hours : best;
    }

    int laws(int c) {
        if (!in(c, 0, 8) || c == home) return -5;
        int was = law, laws = 0;
        for (law = 0; law < texts.size(); law++) if (isRing(c)) laws |= 1 << law;
        law = was;
        return laws;
    }

    // ---- walks

    int judge(int s) {
        if (!in(s, 0, 3)) return BAD;
        if (sheets[s] == null) return -11;
        int went = follow(sheets[s]).streets.size();
        return went == sheets[s].length ? -1 : went;
    }

    int walk(int s, int what) {
        if (!in(s, 0, 3)) return BAD;
        if (sheets[s] == null) return -11;
        if (!in(what, 0, 1)) return -7;
        Walk walk = follow(sheets[s]);
        return what == 0 ? walk.minutes : walk.at();
    }

    /** With ONCE 1 the last that is told, and no other, may come home. */
    Walk follow(int[] told) {
        Walk walk = new Walk();
        for (int i = 0; i < told.length; i++) {
            if (!walk.may(told[i], false)) break;
            boolean homeAhead = once == 1 && i + 1 < told.length && across(told[i], walk.at()) == home;
            if (homeAhead) break;
            walk.go(told[i], false);
        }
        return walk;
    }

    int show(int c, int s) {
        if (!in(c, 0, 8) || c == home) return -5;
        if (!in(s, 0, 3)) return BAD;
        Ring ring = least(1 << c, -1);
        if (ring == null) return -1;
        sorts[s] = 2;
        sheets[s] = new int[ring.streets.size()];
        for (int i = 0; i < sheets[s].length; i++) sheets[s][i] = ring.streets.get(i);
        return sheets[s].length;
    }

    Walk stray(int seed) {
        Walk walk = new Walk();
        long lot = seed + 1;
        while (walk.streets.isEmpty() || walk.at() != home) {
            List<Integer> may = new ArrayList<>();
            for (int s = 0; s < ways.size(); s++) if (walk.may(s, false)) may.add(s);
            if (may.isEmpty()) break;
            lot = lot * 48271L % 2147483647L;
            walk.go(may.get((int) (lot % may.size())), false);
        }
        return walk;
    }

    int drawn(int seed, int what) {
        if (!in(seed, 0, 99999) || !in(what, 0, 2)) return BAD;
        Walk walk = stray(seed);
        return what == 0 ? walk.minutes : what == 1 ? walk.at() : walk.streets.size();
    }

    long odds(int seed, int seeds, int mode, int part) {
        if (!in(seed, 0, 99999) || !in(seeds, 1, 50) || !in(mode, 0, 1) || !in(part, 0, 1)) return NO;
        int above = 0, below = seeds;
        for (int i = 0; i < seeds; i++) {
            Walk walk = stray(seed + i);
            if (mode == 1) above += walk.streets.size();
            if (mode == 0 && !walk.streets.isEmpty() && walk.at() == home) above++;
        }
        int a = above, b = below;
        while (b != 0) {
            int rest = a % b;
            a = b;
            b = rest;
        }
        return part == 0 ? above / a : below / a;
    }

    int image() {
        image = new Kept();
        image.home = home;
        image.hour = hour;
        image.once = once;
        image.been = new TreeSet<>(been);
        image.streets = ways.size();
        image.law = law;
        return image.streets;
    }

    int back() {
        if (image == null) return STATE;
        home = image.home;
        hour = image.hour;
        once = image.once;
        been = new TreeSet<>(image.been);
        while (ways.size() > image.streets) ways.remove(ways.size() - 1);
        law = image.law;
        return ways.size();
    }

    // ---- the host

    int sheet(int s, int sort, int n) {
        if (!in(s, 0, 3) || !in(sort, -1, 2)) return BAD;
        if (sort == -1) {
            sheets[s] = null;
        } else {
            if (n > 40) return BAD;
            if (n < 0) return -14;
            sheets[s] = new int[n];
        }
        sorts[s] = sort;
        return 1;
    }

    int cell(int s, int i, int v) {
        if (!in(s, 0, 3)) return BAD;
        if (sheets[s] == null) return -11;
        if (!in(i, 0, sheets[s].length - 1)) return -12;
        int bits = sorts[s] == 0 ? 24 : sorts[s] == 1 ? 16 : 0;
        sheets[s][i] = v << bits >> bits;
        return 1;
    }

    int copy(int s, int i, int other, int j, int n) {
        if (!in(s, 0, 3) || !in(other, 0, 3)) return BAD;
        if (sheets[s] == null || sheets[other] == null) return -11;
        if (sorts[s] != sorts[other]) return -13;
        if (n < 0 || i < 0 || j < 0) return -12;
        if ((long) i + n > sheets[s].length || (long) j + n > sheets[other].length) return -12;
        int[] were = sheets[s].clone();
        for (int k = 0; k < n; k++) sheets[other][j + k] = were[i + k];
        return n;
    }

    int streetsBy(int s, int sort, int at, int n) {
        if (!in(s, 0, 3) || !in(sort, 0, 2) || !in(n, 0, 10)) return BAD;
        if (sheets[s] == null) return -11;
        if (sorts[s] != sort) return -13;
        int came = 0;
        for (int k = 0; k < n; k++) {
            int[] four = new int[4];
            for (int f = 0; f < 4; f++) {
                long i = at + 4L * k + f;
                if (i < 0 || i >= sheets[s].length) return -12;
                four[f] = sheets[s][(int) i];
            }
            if (street(four[0], four[1], four[2], four[3]) >= 0) came++;
        }
        return came;
    }

    int taken(int i, int kind) {
        if (!in(kind, 0, 6)) return BAD;
        if (!in(i, 0, 20)) return -12;
        if (i >= 9 && i - 9 >= ways.size()) return -11;
        if (i < 9) {
            if (kind != 6) return -13;
            int ends = 0;
            for (Way w : ways) if (w.one == i || w.other == i) ends++;
            return ends;
        }
        int its = ways.get(i - 9).kind;
        boolean fits = kind == 0 || kind == its || kind == 3 && its == 5;
        return kind != 6 && fits ? i - 9 : -13;
    }
}
