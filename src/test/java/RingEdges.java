/** Promises 12 to 17: rings. */
final class RingEdges extends Edges {
    private RingEdges() {
    }

    static void test() {
        ring();
        heavy();
        gap();
        calls();
        callsRefused();
        two();
        twoLess();
        twoRefused();
        round();
    }

    private static void ring() {
        says(12, "LEAST RING to a CORNER.");
        // Two streets at least, as it comes back by another one.
        same(ring(new Town().streets(1), 1), -1, -1, -1, -1);
        same(ring(new Town().streets(1, 1), 1), 2, 3, 0, 2);
        same(ring(new Town().street(0, 80, 99, 0).street(0, 80, 99, 0), 8), 198, 3, 0, 2);
        // Twelve streets of 99 minutes each: to corner 8 some of them, then, one way, all.
        Town t = new Town();
        for (int e : new int[] {1, 12, 23, 34, 45, 56, 67, 78, 87, 71, 14, 40}) t.street(0, e, 99, 0);
        same(ring(t, 8), 8 * 99, 1 | 16 | 32 | 64 | 128 | 256 | 512 | 2048, 0, 8);
        t = new Town();
        for (int e : new int[] {1, 12, 23, 34, 45, 56, 67, 78, 86, 64, 42, 20}) t.street(1, e, 99, 0);
        same(ring(t, 7), 12 * 99, 4095, 0, 12);
        // Of like minutes the first, where the last streets are the ones that are unlike.
        t = new Town();
        for (int e : new int[] {1, 12, 23, 34, 45, 56, 67, 78, 80, 80}) t.street(1, e, 1, 0);
        same(ring(t, 8), 9, 511, 0, 9);
        // By streets against their number.
        t = new Town().street(1, 20, 1, 0).street(1, 12, 1, 0).street(1, 1, 1, 0);
        same(ring(t, 1), 3, 7, 2, 3);
        says(12, "-5: no such CORNER, HOME;");
        t = rich();
        refuses(t, NO_SUCH, x -> x.ring(-1, 0), x -> x.ring(9, 0), x -> x.ring(MIN, 0), x -> x.ring(MAX, 0), x -> x.ring(32, 0), x -> x.ring(33, 0));
        refuses(t, NO_SUCH, x -> x.ring(0, 0), x -> x.ring(0, 3), x -> x.ring(0, 9), x -> x.ring(9, -1));
        Town other = t.again().set(0, 3);
        refuses(other, NO_SUCH, x -> x.ring(3, 0), x -> x.ring(3, 4));
        due(other.ask(x -> x.ring(0, 3)), 4);
        says(12, "-7: what.");
        refuses(t, NO_WHAT, x -> x.ring(1, -1), x -> x.ring(1, 4), x -> x.ring(8, 4), x -> x.ring(1, MIN), x -> x.ring(1, MAX));
    }

    private static void heavy() {
        says(13, "Likewise with a load from there on.");
        Town t = new Town().street(0, 1, 10, 50).street(0, 12, 20, 5).street(0, 20, 30, 1);
        same(ring(t, 1), 60, 7, 0, 3);
        same(heavy(t, 1), 10 + 25 + 31, 7, 0, 3);
        same(heavy(t, 2), 10 + 20 + 31, 7, 0, 3);
        // The street that comes there is gone without, all behind with the load; it is bounded, too.
        same(heavy(new Town().street(0, 1, 50, 60).street(0, 1, 40, 60), 1), 40 + 99, 3, 1, 2);
        same(heavy(new Town().street(0, 1, 60, 10).street(0, 1, 40, 35), 1), 110, 3, 1, 2);
        // Out by the steps, not back by them.
        same(heavy(new Town().street(2, 1, 9, 0).street(0, 1, 1, 0), 1), 10, 3, 0, 2);
        same(heavy(new Town().street(2, 1, 9, 0).street(2, 1, 9, 0), 1), -1, -1, -1, -1);
        // From there on: home may be passed ahead of it, yet not the steps behind it.
        t = new Town().street(1, 1, 1, 0).street(2, 10, 1, 0).street(1, 2, 1, 0).street(1, 20, 1, 0);
        same(heavy(t, 1), -1, -1, -1, -1);
        same(heavy(t, 2), 2, 12, 2, 2);
        says(13, "-5, -7 likewise.");
        t = rich();
        refuses(t, NO_SUCH, x -> x.heavy(-1, 0), x -> x.heavy(9, 0), x -> x.heavy(MIN, 0), x -> x.heavy(MAX, 0), x -> x.heavy(0, 0), x -> x.heavy(0, 4));
        refuses(t.again().set(0, 8), NO_SUCH, x -> x.heavy(8, 0), x -> x.heavy(9, 9));
        refuses(t, NO_WHAT, x -> x.heavy(1, -1), x -> x.heavy(1, 4), x -> x.heavy(8, 4), x -> x.heavy(1, MIN), x -> x.heavy(1, MAX));
    }

    private static void gap() {
        says(14, "MINUTES of that less MINUTES of ring(); -1: there is none of either.");
        due(new Town().street(0, 1, 1, 0).street(0, 1, 1, 0).ask(x -> x.gap(1)), 0);
        due(new Town().street(0, 1, 1, 98).street(0, 1, 1, 99).ask(x -> x.gap(1)), 98);
        due(new Town().street(0, 1, 9, 5).street(0, 1, 9, 3).law("walk base;carry more;may 1;").ask(x -> x.gap(1)), -6);
        // The ring is one to that corner, not the least of all; without and with.
        due(new Town().street(0, 1, 1, 0).street(0, 1, 1, 0).street(0, 2, 7, 20).street(0, 2, 8, 30).ask(x -> x.gap(2)), 20);
        due(new Town().street(0, 2, 7, 20).street(0, 2, 8, 30).street(0, 1, 1, 99).street(0, 1, 1, 99).ask(x -> x.gap(2)), 20);
        // None without a load: none with one.
        each(new Town().streets(1), -1, x -> x.gap(1), x -> x.gap(8));
        // One without, but none with a load.
        Town t = new Town().street(2, 1, 1, 0).street(2, 1, 1, 0);
        row(t, to(3, -1, -1), x -> x.ring(1, 0), x -> x.heavy(1, 0), x -> x.gap(1));
        says(14, "-5 likewise.");
        refuses(rich(), NO_SUCH, x -> x.gap(-1), x -> x.gap(9), x -> x.gap(0), x -> x.gap(MIN), x -> x.gap(MAX));
        refuses(rich().set(0, 8), NO_SUCH, x -> x.gap(8));
    }

    private static void calls() {
        says(15, "LEAST RING to some CORNERS (bits; HOME doesn't count), with a load from heavy on (-1: none).");
        Town t = new Town().streets(1, 12, 20, 3, 34, 40);
        same(calls(t, 0, -1), 3, 7, 0, 3);
        same(calls(t, 1, -1), 3, 7, 0, 3);
        same(calls(t, 2, -1), 3, 7, 0, 3);
        same(calls(t, 8, -1), 3, 56, 3, 3);
        same(calls(t, 9, -1), 3, 56, 3, 3);
        same(calls(t, 30, -1), 6, 63, 0, 6);
        same(calls(t, 31, -1), 6, 63, 0, 6);
        same(calls(t, 30, 4), 7, 63, 0, 6);
        same(calls(t, 30, 1), 7, 63, 3, 6);
        same(calls(t, 62, -1), -1, -1, -1, -1);
        same(calls(t, 511, 8), -1, -1, -1, -1);
        // None at all: a ring to no corners, with no load.
        same(calls(new Town(), 0, -1), -1, -1, -1, -1);
        same(calls(new Town().streets(12, 21), 0, -1), -1, -1, -1, -1);
        // All eight others.
        t = new Town().streets(1, 12, 23, 34, 45, 56, 67, 78, 80);
        same(calls(t, 510, -1), 9, 511, 0, 9);
        same(calls(t, 511, 8), 10, 511, 0, 9);
        // HOME is another one.
        same(calls(t.set(0, 8), 256, -1), 9, 511, 7, 9);
        same(calls(t, 255, 0), 10, 511, 7, 9);
    }

    private static void callsRefused() {
        says(15, "BAD: set;");
        Town t = rich();
        refuses(t, BAD, x -> x.calls(-1, -1, 0), x -> x.calls(512, -1, 0), x -> x.calls(MIN, -1, 0), x -> x.calls(MAX, -1, 0), x -> x.calls(513, 0, 9));
        says(15, "-5: heavy is none of them, HOME;");
        refuses(t, NO_SUCH, x -> x.calls(2, 2, 0), x -> x.calls(0, 1, 0), x -> x.calls(509, 1, 0), x -> x.calls(255, 8, 0));
        refuses(t, NO_SUCH, x -> x.calls(1, 0, 0), x -> x.calls(511, 0, 0), x -> x.calls(0, 0, 0));
        refuses(t, NO_SUCH, x -> x.calls(511, 9, 0), x -> x.calls(511, -2, 0), x -> x.calls(511, MIN, 0), x -> x.calls(511, MAX, 0), x -> x.calls(511, 32, 0),
            x -> x.calls(2, 33, 0));
        refuses(t, NO_SUCH, x -> x.calls(2, 2, 4), x -> x.calls(1, 0, -1));
        Town other = t.again().set(0, 2);
        refuses(other, NO_SUCH, x -> x.calls(6, 2, 0));
        due(other.ask(x -> x.calls(3, 0, 3)), 3);
        says(15, "-7: what.");
        refuses(t, NO_WHAT, x -> x.calls(2, -1, -1), x -> x.calls(2, 1, 4), x -> x.calls(256, 8, 4), x -> x.calls(0, -1, MIN), x -> x.calls(0, -1, MAX));
    }

    private static void two() {
        says(16, "LEAST TWO RINGS, to some CORNERS, then to others (bits; both some besides HOME):");
        Town t = new Town().streets(1, 12, 20, 3, 34, 40);
        each(t, 6, x -> x.two(2, 8, 0), x -> x.two(8, 2, 0), x -> x.two(6, 24, 0), x -> x.two(7, 25, 0), x -> x.two(24, 6, 0));
        each(t, -1, x -> x.two(10, 2, 0), x -> x.two(2, 4, 0), x -> x.two(2, 32, 0), x -> x.two(32, 2, 0), x -> x.two(510, 510, 0));
        // The same corners may be among both; that a ring comes to others, too, is no matter.
        t = new Town().streets(1, 1, 1, 1);
        each(t, 4, x -> x.two(2, 2, 0), x -> x.two(3, 2, 0), x -> x.two(2, 3, 0));
        // A ring may pass home: to 1 and 3 by two loops, then to 5.
        t = new Town().streets(1, 1, 3, 3, 5, 5);
        each(t, 6, x -> x.two(10, 32, 0), x -> x.two(32, 10, 0), x -> x.two(2, 40, 0));
        each(t.set(2, 1), -1, x -> x.two(10, 32, 0), x -> x.two(32, 10, 0), x -> x.two(2, 40, 0));
        each(t, 4, x -> x.two(2, 32, 0));
        // None has a load.
        t = new Town().street(2, 1, 1, 50).street(2, 1, 1, 50).street(2, 2, 1, 50).street(2, 2, 1, 50);
        each(t, 6, x -> x.two(2, 4, 0));
    }

    private static void twoLess() {
        says(16, "what 0 all MINUTES, 1 that less MINUTES of LEAST RING to all of them; -1: there is none of either.");
        // One ring to all, that takes less than two.
        Town t = new Town().street(0, 1, 5, 0).street(0, 1, 6, 0).street(0, 12, 1, 0).street(0, 20, 7, 0).street(0, 20, 8, 0);
        row(t, to(11, 13, 26, 13), x -> x.ring(1, 0), x -> x.calls(6, -1, 0), x -> x.two(2, 4, 0), x -> x.two(2, 4, 1));
        // One to all there is, but no two.
        t = new Town().streets(1, 12, 20);
        row(t, to(3, -1, -1), x -> x.calls(6, -1, 0), x -> x.two(2, 4, 0), x -> x.two(2, 4, 1));
        // Two there are, but none to all, as home may not be passed on the way.
        t = new Town().streets(1, 1, 2, 2);
        row(t, to(4, 0), x -> x.two(2, 4, 0), x -> x.two(2, 4, 1));
        row(t.set(2, 1), to(-1, 4, -1), x -> x.calls(6, -1, 0), x -> x.two(2, 4, 0), x -> x.two(2, 4, 1));
        // Less than none: one ring takes longer than two, where home may not be passed.
        t = new Town().streets(1, 1, 2, 2).street(0, 12, 5, 0).set(2, 1);
        row(t, to(7, 4, -3), x -> x.calls(6, -1, 0), x -> x.two(2, 4, 0), x -> x.two(2, 4, 1));
    }

    private static void twoRefused() {
        says(16, "BAD: CORNERS;");
        Town t = rich();
        for (int set : new int[] {-1, 512, MIN, MAX, 0, 1}) {
            refuses(t, BAD, x -> x.two(set, 2, 0), x -> x.two(2, set, 0), x -> x.two(set, set, 1), x -> x.two(set, 2, 9), x -> x.two(2, set, -1));
        }
        refuses(t.again().set(0, 8), BAD, x -> x.two(256, 2, 0), x -> x.two(2, 256, 0));
        due(t.again().set(0, 8).ask(x -> x.two(1, 2, 0)), -1);
        says(16, "-7: what.");
        refuses(t, NO_WHAT, x -> x.two(2, 4, -1), x -> x.two(2, 4, 2), x -> x.two(256, 128, 2), x -> x.two(2, 4, MIN), x -> x.two(2, 4, MAX));
    }

    private static void round() {
        says(17, "LEAST RING to no CORNERS.");
        same(round(new Town()), -1, -1, -1, -1);
        same(round(new Town().streets(1)), -1, -1, -1, -1);
        same(round(new Town().streets(12, 23, 31)), -1, -1, -1, -1);
        Town t = new Town().streets(12, 20, 1, 3, 34, 40);
        same(round(t), 3, 7, 1, 3);
        same(round(t.set(0, 3)), 3, 56, 3, 3);
        same(round(t.set(0, 8)), -1, -1, -1, -1);
        says(17, "BAD.");
        refuses(rich(), BAD, x -> x.round(-1), x -> x.round(4), x -> x.round(MIN), x -> x.round(MAX));
        refuses(new Town(), BAD, x -> x.round(-1), x -> x.round(4));
    }
}
