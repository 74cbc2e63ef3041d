import java.util.Arrays;

/** What the tests of edges share: the words that a test is for, what is due, what changes nothing. */
class Edges {
    static final int NONE = -1, BAD = -2, STATE = -3, FULL = -4, NO_SUCH = -5, NO_WHAT = -7;
    static final int MISSING = -11, OUTSIDE = -12, UNLIKE = -13, BELOW_ZERO = -14;
    static final long NO = -4611686018427387904L;
    static final int MIN = Integer.MIN_VALUE, MAX = Integer.MAX_VALUE;

    static int rows = 0, wrong = 0;
    private static String sentence = "";

    /** The test that begins here is for these words of the Terms (0) or of a promise. */
    static void says(int section, String words) {
        sentence = (section == Doc.TERMS ? "Terms" : "Promise " + section) + ": " + words;
        if (!Doc.test(section, words)) fail("these words don't stand there");
    }

    static long[] to(long... answers) {
        return answers;
    }

    static void due(long got, long want) {
        rows++;
        if (got != want) fail("answered " + got + ", due is " + want);
    }

    /** Each of some calls, one behind the other, answers the same. */
    static void each(Town town, long want, Town.Call... calls) {
        for (int i = 0; i < calls.length; i++) same(i, town.ask(calls[i]), want);
    }

    /** Some calls, one behind the other, answer these. */
    static void row(Town town, long[] want, Town.Call... calls) {
        if (want.length != calls.length) throw new IllegalStateException("as many answers as calls: " + sentence);
        for (int i = 0; i < calls.length; i++) same(i, town.ask(calls[i]), want[i]);
    }

    /** Each of some calls answers the same, and changes nothing. */
    static void refuses(Town town, long want, Town.Call... calls) {
        Town asked = town.again();
        for (int i = 0; i < calls.length; i++) same(i, asked.ask(calls[i]), want);
        changesNothing(town, calls);
    }

    /** A town that was asked all this answers all else as one that was not. */
    static void changesNothing(Town town, Town.Call... calls) {
        for (int part = 0; part < 3; part++) {
            Probe probe = new Probe(town.again().with(calls), town.again());
            if (part == 0) probe.all();
            else if (part == 1) probe.sheets();
            else probe.image();
            rows++;
            if (!probe.unlike.isEmpty()) fail("something has changed: " + probe.unlike);
        }
    }

    private static void same(int i, long got, long want) {
        rows++;
        if (got != want) fail("call " + i + " answered " + got + ", due is " + want);
    }

    static void fail(String what) {
        wrong++;
        System.out.println(sentence + "\n    " + place() + ": " + what);
    }

    private static String place() {
        for (StackTraceElement e : Thread.currentThread().getStackTrace()) {
            if (e.getClassName().endsWith("Edges") && !e.getClassName().equals("Edges")) return e.getFileName() + ", line " + e.getLineNumber();
        }
        return "?";
    }

    // ---- towns

    /** All kinds of streets, texts, sheets of all sorts, an image that is otherwise, a tape, BEEN. */
    static Town rich() {
        Town t = new Town().street(0, 1, 5, 2).street(0, 12, 4, 1).street(1, 20, 6, 3).street(2, 13, 3, 0).street(3, 34, 7, 1);
        t.street(5, 42, 2, 1).street(4, 23, 9, 5).street(0, 45, 2, 2).street(0, 54, 3, 3);
        t.text("walk base+1;carry base+more*2;may 1;");
        t.text("walk hour;carry to;may from<to or street<3;");
        t.with(x -> x.force(1)).set(0, 2).set(1, 13).set(2, 1).gone(1);
        t.with(x -> x.image());
        t.set(0, 0).set(1, 9).set(2, 0).gone(256).street(0, 25, 1, 1);
        t.with(x -> x.force(0)).feed("walk 7;");
        t.sheet(0, 0, 0, 1, 2, 0).sheet(1, 1, 4, 12, 3, 4, 2, 34, 5, 6);
        t.sheet(2, 2, 9, 0, 12, 7, 8, 5, 78, 99, 98);
        return t;
    }

    /** The least ring's minutes, streets, first street, how many streets. */
    static long[] ring(Town town, int c) {
        return four(town, (x, what) -> x.ring(c, what));
    }

    static long[] heavy(Town town, int c) {
        return four(town, (x, what) -> x.heavy(c, what));
    }

    static long[] calls(Town town, int set, int heavy) {
        return four(town, (x, what) -> x.calls(set, heavy, what));
    }

    static long[] round(Town town) {
        return four(town, (x, what) -> x.round(what));
    }

    static long[] asks(Town town, int s, int from) {
        return four(town, (x, what) -> x.asks(s, from, what));
    }

    static long[] never(Town town) {
        return Arrays.copyOf(four(town, (x, what) -> x.never(what)), 3);
    }

    static long[] counts(Town town) {
        long[] all = new long[8];
        for (int i = 0; i < 8; i++) {
            int what = i;
            all[i] = town.ask(x -> x.count(what));
        }
        return all;
    }

    static long[] told(Town town, int s) {
        long[] all = new long[6];
        for (int i = 0; i < 6; i++) {
            int what = i;
            all[i] = town.ask(x -> x.told(s, what));
        }
        return all;
    }

    interface What {
        long of(HomeByAnotherWay x, int what);
    }

    private static long[] four(Town town, What call) {
        long[] all = new long[4];
        for (int i = 0; i < 4; i++) {
            int what = i;
            all[i] = town.ask(x -> call.of(x, what));
        }
        return all;
    }

    static void same(long[] got, long... want) {
        rows++;
        if (!Arrays.equals(got, want)) fail("answered " + Arrays.toString(got) + ", due is " + Arrays.toString(want));
    }
}
