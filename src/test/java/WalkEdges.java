/** Promises 28 to 34: walks that are told, walks by lot, images. */
final class WalkEdges extends Edges {
    private WalkEdges() {
    }

    static void test() {
        judge();
        judgeHome();
        judgeRefused();
        walk();
        walkRefused();
        show();
        showNone();
        showRefused();
        drawn();
        odds();
        oddsRefused();
        image();
        back();
    }

    /** What judge() and walk() say of a sheet of ints. */
    private static void follows(Town town, long bad, long minutes, long corner, int... told) {
        row(town.again().sheet(0, 2, told), to(bad, minutes, corner), x -> x.judge(0), x -> x.walk(0, 0), x -> x.walk(0, 1));
    }

    private static void judge() {
        says(28, "A SHEET tells STREETS: the first (from 0) that is none, or can't be next in a WALK without a load; -1: none.");
        Town t = new Town().street(0, 1, 2, 90).street(1, 12, 3, 90).street(2, 20, 4, 90).street(3, 13, 5, 7).street(5, 34, 6, 7).street(0, 31, 7, 7);
        follows(t, -1, 0, 0);
        follows(t, -1, 2, 1, 0);
        follows(t, -1, 9, 0, 0, 1, 2);
        // None: below 0, and from how many there are on.
        follows(t, 0, 0, 0, -1);
        follows(t, 0, 0, 0, 6);
        follows(t, 0, 0, 0, 12);
        follows(t, 0, 0, 0, MIN);
        follows(t, 0, 0, 0, MAX);
        follows(t, 0, 0, 0, 32);
        follows(t, 1, 2, 1, 0, 33);
        follows(t, 3, 9, 0, 0, 1, 2, -1);
        // Not from there, gone already, spent, the wrong way, by the law, in BEEN; what follows is no matter.
        follows(t, 0, 0, 0, 1, 2);
        follows(t, 1, 2, 1, 0, 0, 1, 2);
        follows(t, 2, 7, 3, 0, 3, 4);
        follows(t, 2, 9, 3, 0, 5, 0);
        follows(t, -1, 15, 4, 0, 5, 4);
        follows(t, 1, 8, 2, 2, 1);
        follows(t.again().gone(2), 1, 2, 1, 0, 1, 2);
        follows(t.again().set(1, 12), 2, 9, 3, 0, 5, 4);
        follows(t.again().law("walk 1;carry 1;may street=0;"), 1, 1, 1, 0, 1);
        // Without a load: steps may be gone, of any corner one has passed.
        follows(t, -1, 8, 2, 2);
        // Bytes and shorts tell them, too.
        row(t.again().sheet(1, 0, 0, 257, 2 - 256), to(-1, 9), x -> x.judge(1), x -> x.walk(1, 0));
        row(t.again().sheet(2, 1, 65536, 1, 2 - 65536), to(-1, 9), x -> x.judge(2), x -> x.walk(2, 0));
        // All forty; twelve streets.
        row(new Town().with(x -> x.sheet(3, 2, 40)), to(0), x -> x.judge(3));
        t = new Town().streets(1, 10, 1, 10, 1, 10, 1, 10, 1, 10, 1, 10);
        follows(t, -1, 12, 0, 11, 10, 9, 8, 7, 6, 5, 4, 3, 2, 1, 0);
        follows(t, 12, 12, 0, 0, 1, 2, 3, 4, 5, 6, 7, 8, 9, 10, 11, 0);
    }

    private static void judgeHome() {
        says(28, "(HOME may be passed, if ONCE is 0; if it is 1, only as the last.)");
        Town t = new Town().streets(1, 10, 1, 10);
        follows(t, -1, 4, 0, 0, 1, 2, 3);
        follows(t.set(2, 1), 1, 1, 1, 0, 1, 2, 3);
        follows(t, -1, 2, 0, 0, 1);
        follows(t, 1, 1, 1, 0, 1, 2);
        follows(t, 1, 1, 1, 0, 1, 99);
        follows(t, 1, 1, 1, 0, 0);
        // Any other corner may not be passed twice, not even as the last.
        t = new Town().streets(1, 12, 21, 20).set(2, 1);
        follows(t, 2, 2, 2, 0, 1, 2);
        follows(t, -1, 3, 0, 0, 1, 3);
        follows(t, 2, 2, 2, 0, 1, 3, 2);
        follows(t.again().set(2, 0), -1, 3, 1, 0, 1, 2);
        follows(t.again().set(0, 2), -1, 2, 2, 1, 2);
        follows(new Town().streets(21, 1, 12).set(2, 1), 2, 2, 2, 1, 2, 0);
    }

    private static void judgeRefused() {
        says(28, "BAD: SHEET; -11.");
        Town t = rich();
        refuses(t, BAD, x -> x.judge(-1), x -> x.judge(4), x -> x.judge(MIN), x -> x.judge(MAX));
        refuses(t, MISSING, x -> x.judge(3));
        refuses(t.again().with(x -> x.sheet(0, -1, 0)), MISSING, x -> x.judge(0));
    }

    private static void walk() {
        says(29, "That WALK, ahead of the first that can't be: what 0 MINUTES, 1 the CORNER at which it is then.");
        Town t = new Town().street(2, 81, 99, 0).street(4, 12, 50, 49).street(0, 28, 99, 99).set(0, 8).set(1, 12);
        follows(t, -1, 0, 8);
        follows(t, 0, 0, 8, 3);
        follows(t, 0, 0, 8, 1);
        follows(t, 1, 99, 1, 0, 2);
        follows(t, -1, 99 + 99 + 99, 8, 0, 1, 2);
        follows(t, -1, 99 + 99 + 99, 8, 2, 1, 0);
        follows(t, 3, 297, 8, 2, 1, 0, 0);
        follows(t.again().set(1, 11), -1, 99 + 50 + 99, 8, 0, 1, 2);
        follows(t.again().law("walk 60;carry 1;may 1;"), -1, 60 + 99 + 99, 8, 2, 1, 0);
        // What it goes is in BEEN no more than ahead of it.
        row(t.sheet(0, 2, 0, 1, 2), to(297, 8, 0, -1), x -> x.walk(0, 0), x -> x.walk(0, 1), x -> x.count(4), x -> x.judge(0));
        t = new Town();
        for (int i = 0; i < 12; i++) t.street(0, 1, 99, 0);
        follows(t, -1, 1188, 0, 0, 1, 2, 3, 4, 5, 6, 7, 8, 9, 10, 11);
    }

    private static void walkRefused() {
        says(29, "BAD: SHEET; -11; -7: what.");
        Town t = rich();
        refuses(t, BAD, x -> x.walk(-1, 0), x -> x.walk(4, 1), x -> x.walk(MIN, 0), x -> x.walk(MAX, 0), x -> x.walk(4, 2));
        refuses(t, MISSING, x -> x.walk(3, 0), x -> x.walk(3, 1), x -> x.walk(3, 2), x -> x.walk(3, -1));
        refuses(t, NO_WHAT, x -> x.walk(0, -1), x -> x.walk(0, 2), x -> x.walk(2, MIN), x -> x.walk(1, MAX));
    }

    private static void show() {
        says(30, "A SHEET truly becomes the STREETS (ints) of LEAST RING to a CORNER, as they are gone: how many;");
        // Streets 2 0 1, of 4, 1, 2 minutes: told apart by what the walk takes, number by number.
        Town t = new Town().street(1, 12, 1, 0).street(1, 20, 2, 0).street(1, 1, 4, 0);
        for (int sort = -1; sort <= 2; sort++) {
            for (int size : new int[] {0, 2, 40}) {
                int its = sort;
                Town shown = t.again().with(x -> x.sheet(1, its, size));
                row(shown, to(3, -1, 7, 0), x -> x.show(1, 1), x -> x.judge(1), x -> x.walk(1, 0), x -> x.walk(1, 1));
                row(shown.sheet(0, 2, 0), to(1, 4, 1), x -> x.copy(1, 0, 0, 0, 1), x -> x.walk(0, 0), x -> x.walk(0, 1));
                row(shown.sheet(0, 2, 0, 0), to(2, 5, 2), x -> x.copy(1, 0, 0, 0, 2), x -> x.walk(0, 0), x -> x.walk(0, 1));
                // It is of ints, and has three.
                row(shown, to(0, UNLIKE, UNLIKE, OUTSIDE, 1), x -> x.streetsBy(1, 2, 0, 0), x -> x.streetsBy(1, 0, 0, 0), x -> x.streetsBy(1, 1, 0, 0),
                    x -> x.cell(1, 3, 0), x -> x.cell(1, 2, 256));
                row(shown, to(2, 5), x -> x.judge(1), x -> x.walk(1, 0));
            }
        }
        // All twelve, on each of the four sheets; the others stay.
        t = new Town();
        for (int e : new int[] {1, 12, 23, 34, 45, 56, 67, 78, 86, 64, 42, 20}) t.street(1, e, 99, 0);
        for (int s = 0; s < 4; s++) {
            int sheet = s, other = (s + 1) % 4;
            row(t.again(), to(12, -1, 1188, 1, OUTSIDE, MISSING), x -> x.show(7, sheet), x -> x.judge(sheet), x -> x.walk(sheet, 0), x -> x.cell(sheet, 11, 0),
                x -> x.cell(sheet, 12, 0), x -> x.judge(other));
        }
        // Without a load: by the steps, and by what walk says.
        row(new Town().street(2, 1, 1, 0).street(0, 1, 9, 9).street(2, 1, 1, 0), to(2, -1, 3), x -> x.show(1, 0), x -> x.judge(0), x -> x.walk(0, 0));
        row(new Town().street(0, 1, 9, 0).street(0, 1, 1, 80).street(0, 1, 2, 80), to(2, -1, 3), x -> x.show(1, 0), x -> x.judge(0), x -> x.walk(0, 0));
        // It stays as it is, whatever comes then.
        t = new Town().streets(1, 1).with(x -> x.show(1, 0)).gone(3).set(0, 1).gone(0);
        row(t, to(-1, 2, 1), x -> x.judge(0), x -> x.walk(0, 0), x -> x.walk(0, 1));
    }

    private static void showNone() {
        says(30, "-1: there is none.");
        Town t = rich();
        refuses(t, -1, x -> x.show(8, 0), x -> x.show(7, 1), x -> x.show(6, 2), x -> x.show(8, 3));
        refuses(new Town(), -1, x -> x.show(1, 0), x -> x.show(8, 3));
    }

    private static void showRefused() {
        says(30, "-5: no such CORNER, HOME;");
        Town t = rich();
        refuses(t, NO_SUCH, x -> x.show(-1, 0), x -> x.show(9, 0), x -> x.show(0, 0), x -> x.show(MIN, 0), x -> x.show(MAX, 0), x -> x.show(0, 4), x -> x.show(9, -1));
        refuses(t.again().set(0, 8), NO_SUCH, x -> x.show(8, 0));
        says(30, "BAD: SHEET.");
        refuses(t, BAD, x -> x.show(1, -1), x -> x.show(1, 4), x -> x.show(8, 4), x -> x.show(1, MIN), x -> x.show(1, MAX));
    }

    private static void drawn() {
        says(31, "DRAWN: what 0 MINUTES, 1 the CORNER at which it ends, 2 how many STREETS.");
        for (int seed : new int[] {0, 1, 7, 99999}) {
            row(new Town().set(0, 8), to(0, 8, 0), x -> x.drawn(seed, 0), x -> x.drawn(seed, 1), x -> x.drawn(seed, 2));
            // One way on alone, to the end, or home.
            row(new Town().streets(1, 12, 23).set(0, 3), to(3, 0, 3), x -> x.drawn(seed, 0), x -> x.drawn(seed, 1), x -> x.drawn(seed, 2));
            row(new Town().streets(1, 12, 23).gone(4), to(2, 2, 2), x -> x.drawn(seed, 0), x -> x.drawn(seed, 1), x -> x.drawn(seed, 2));
            row(new Town().street(1, 1, 5, 0).street(2, 21, 6, 0).street(1, 20, 7, 0), to(24, 0, 3), x -> x.drawn(seed, 0), x -> x.drawn(seed, 1),
                x -> x.drawn(seed, 2));
            // Home it ends, though it could go on.
            row(new Town().streets(1, 1, 1, 1, 1, 1), to(2, 0, 2), x -> x.drawn(seed, 0), x -> x.drawn(seed, 1), x -> x.drawn(seed, 2));
            // A corner passed is none that may be next, if none may be passed twice.
            Town t = new Town().streets(1, 12, 21).set(2, 1);
            row(t, to(2, 2, 2), x -> x.drawn(seed, 0), x -> x.drawn(seed, 1), x -> x.drawn(seed, 2));
        }
        Town t = new Town();
        for (int e : new int[] {1, 12, 23, 34, 45, 56, 67, 78}) t.street(0, e, 99, 0);
        row(t, to(792, 8, 8), x -> x.drawn(3, 0), x -> x.drawn(3, 1), x -> x.drawn(3, 2));
        says(31, "BAD.");
        Town r = rich();
        refuses(r, BAD, x -> x.drawn(-1, 0), x -> x.drawn(100000, 0), x -> x.drawn(MIN, 0), x -> x.drawn(MAX, 0));
        refuses(r, BAD, x -> x.drawn(0, -1), x -> x.drawn(0, 3), x -> x.drawn(99999, MIN), x -> x.drawn(99999, MAX), x -> x.drawn(-1, 3));
        refuses(new Town(), BAD, x -> x.drawn(-1, 0), x -> x.drawn(100000, 0), x -> x.drawn(0, 3));
    }

    private static void odds(Town t, int seed, int seeds, long... want) {
        row(t, want, x -> x.odds(seed, seeds, 0, 0), x -> x.odds(seed, seeds, 0, 1), x -> x.odds(seed, seeds, 1, 0), x -> x.odds(seed, seeds, 1, 1));
    }

    private static void odds() {
        says(32, "Over so many (1 .. 50) seeds, SEED and each 1 more: mode 0 in how many one comes home (by a STREET at least), 1 how many STREETS in the mean: "
            + "part 0 above, 1 below the line, in lowest terms.");
        // At home, but by no street.
        odds(new Town(), 0, 1, 0, 1, 0, 1);
        odds(new Town(), 99999, 1, 0, 1, 0, 1);
        odds(new Town(), 7, 50, 0, 1, 0, 1);
        odds(new Town().streets(1), 0, 50, 0, 1, 1, 1);
        odds(new Town().streets(1, 1), 0, 50, 1, 1, 2, 1);
        odds(new Town().streets(1, 1), 99999, 1, 1, 1, 2, 1);
        odds(new Town().streets(1, 12, 23, 34, 45, 56, 67, 78), 49, 49, 0, 1, 8, 1);
        // A street that leads away, and two that lead home: which it is, the first lot tells.
        Town t = new Town().streets(2, 1, 1);
        for (int seeds = 1; seeds <= 50; seeds++) {
            for (int seed : new int[] {0, 12345}) {
                int home = 0;
                for (int i = 0; i < seeds; i++) if ((seed + i + 1L) * 48271 % 2147483647 % 3 != 0) home++;
                int all = 2 * home + seeds - home, byHome = divisor(home, seeds), byAll = divisor(all, seeds);
                odds(t.again(), seed, seeds, home / byHome, seeds / byHome, all / byAll, seeds / byAll);
            }
        }
        // Each alone is as it is drawn.
        t = rich();
        for (int seed : new int[] {0, 5, 99999}) {
            long many = t.ask(x -> x.drawn(seed, 2)), home = t.ask(x -> x.drawn(seed, 1)) == 0 ? 1 : 0;
            odds(t, seed, 1, home, 1, many, 1);
        }
    }

    private static int divisor(int a, int b) {
        return a == 0 ? b : divisor(b % a, a);
    }

    private static void oddsRefused() {
        says(32, "NO: none such.");
        for (Town t : new Town[] {rich(), new Town()}) {
            refuses(t, NO, x -> x.odds(-1, 1, 0, 0), x -> x.odds(100000, 1, 0, 0), x -> x.odds(MIN, 1, 0, 0), x -> x.odds(MAX, 1, 0, 0));
            refuses(t, NO, x -> x.odds(0, 0, 0, 0), x -> x.odds(0, 51, 0, 0), x -> x.odds(0, -1, 0, 0), x -> x.odds(0, MIN, 0, 0), x -> x.odds(0, MAX, 0, 0));
            refuses(t, NO, x -> x.odds(0, 1, -1, 0), x -> x.odds(0, 1, 2, 0), x -> x.odds(0, 1, MIN, 0), x -> x.odds(0, 1, MAX, 0));
            refuses(t, NO, x -> x.odds(0, 1, 0, -1), x -> x.odds(0, 1, 0, 2), x -> x.odds(0, 1, 1, MIN), x -> x.odds(0, 1, 1, MAX));
        }
    }

    private static void image() {
        says(33, "AN IMAGE is kept: how many STREETS.");
        row(new Town(), to(0, 0), x -> x.image(), x -> x.back());
        Town t = new Town();
        for (int n = 1; n <= 12; n++) {
            int many = n;
            row(t.streets(1), to(many, many), x -> x.image(), x -> x.count(3));
        }
        // One alone is kept, the latest.
        t = new Town().set(0, 1).with(x -> x.image()).set(0, 2).with(x -> x.image()).set(0, 3).with(x -> x.back());
        row(t, to(2, 0, 2), x -> x.count(0), x -> x.back(), x -> x.count(0));
        // To keep it changes nothing else.
        t = rich();
        Town kept = t.again().with(x -> x.image());
        same(counts(kept), counts(t));
        for (int c = 1; c <= 8; c++) same(ring(kept, c), ring(t, c));
    }

    private static void back() {
        says(34, "All that it keeps is as in THE IMAGE, STREETS that came since are none: how many there are.");
        Town t = rich();
        same(counts(t), 0, 9, 0, 10, 256, 3, 0, 7);
        row(t, to(9, NO_SUCH, 3, -11), x -> x.back(), x -> x.told(9, 0), x -> x.told(8, 4), x -> x.taken(18, 0));
        same(counts(t), 2, 13, 1, 9, 1, 3, 1, 7);
        // It stays: back again, and again.
        row(t.set(0, 5).gone(0).set(2, 0).set(1, 1), to(9, 9), x -> x.back(), x -> x.back());
        same(counts(t), 2, 13, 1, 9, 1, 3, 1, 7);
        // A street that comes then has the next number, and is not in BEEN.
        row(t, to(9, 1, 9), x -> x.street(5, 67, 8, 9), x -> x.count(4), x -> x.back());
        // Streets closed down to those of the image, and others in their place.
        t = new Town().streets(1).gone(1).with(x -> x.image()).streets(12, 23).gone(7).with(x -> x.close(), x -> x.close()).street(4, 45, 6, 7);
        row(t, to(1, 1, NO_SUCH, 1), x -> x.back(), x -> x.count(4), x -> x.told(1, 0), x -> x.count(3));
        // Twelve came since.
        t = new Town().with(x -> x.image()).streets(1, 12, 23, 34, 45, 56, 67, 78, 80, 1, 12, 23).gone(4095);
        row(t, to(0, 0, 0), x -> x.back(), x -> x.count(4), x -> x.count(3));
        says(34, "STATE: there is none.");
        refuses(new Town(), STATE, x -> x.back());
        refuses(new Town().streets(1).set(0, 3).gone(1).feed("walk").sheet(0, 0, 1), STATE, x -> x.back(), x -> x.back());
        // The street that it had is closed.
        t = new Town().streets(1, 12).with(x -> x.image(), x -> x.close()).set(0, 4);
        refuses(t, STATE, x -> x.back());
        refuses(t.streets(12), STATE, x -> x.back());
    }
}
