/** The Terms: the bounds of every number told there, the kinds, walks, rings, lots, refusals. */
final class TermsEdges extends Edges {
    private TermsEdges() {
    }

    static void test() {
        corners();
        streets();
        atFirst();
        kindsHead();
        kindStreet();
        kindOneway();
        kindSteps();
        kindBridge();
        kindSunny();
        kindGate();
        TextEdges.test();
        walks();
        rings();
        least();
        load();
        twoRings();
        parts();
        drawn();
        image();
        sheets();
        refusals();
        host();
        leastWhats();
    }

    private static void corners() {
        says(0, "CORNERS 0 .. 8.");
        Town t = new Town().street(0, 80, 3, 0).street(0, 8, 4, 0);
        same(ring(t, 8), 7, 3, 0, 2);
        row(t, to(0, 7, 8, 7), x -> x.set(0, 8), x -> x.ring(0, 0), x -> x.set(0, 0), x -> x.ring(8, 0));
        row(t, to(1, 256, 0, 0, 2), x -> x.part(8), x -> x.part(0), x -> x.part(7), x -> x.bond(0, 0), x -> x.taken(8, 6));
        refuses(t, BAD, x -> x.set(0, 9), x -> x.set(0, -1), x -> x.street(0, 9, 1, 1), x -> x.street(0, 90, 1, 1));
        refuses(t, NO_SUCH, x -> x.ring(9, 0), x -> x.ring(-1, 0), x -> x.part(9), x -> x.part(-1), x -> x.bond(9, 0), x -> x.asks(0, 9, 0));
        each(t, -1, x -> x.ring(1, 0), x -> x.ring(7, 0));
    }

    private static void streets() {
        says(0, "STREETS are numbered from 0 on, 12 at most: of a KIND, between two CORNERS (the one, the other), BASE (1 .. 99), MORE (0 .. 99).");
        Town t = new Town();
        for (int s = 0; s < 12; s++) {
            int more = s % 2 * 99, base = s % 2 == 0 ? 1 : 99, ends = s % 2 == 0 ? 80 : 8;
            due(t.ask(x -> x.street(0, ends, base, more)), s);
        }
        same(told(t, 0), 0, 8, 0, 1, 0, 1);
        same(told(t, 11), 0, 0, 8, 99, 99, 2048);
        refuses(t, FULL, x -> x.street(0, 1, 1, 1), x -> x.street(5, 87, 99, 99));
        due(t.ask(x -> x.close()), 11);
        due(t.ask(x -> x.street(5, 1, 99, 0)), 11);
        refuses(new Town(), BAD, x -> x.street(0, 1, 0, 1), x -> x.street(0, 1, 100, 1), x -> x.street(0, 1, 1, -1), x -> x.street(0, 1, 1, 100));
    }

    private static void atFirst() {
        says(0, "HOME (a CORNER; 0 at first), THE HOUR (0 .. 23; 8 at first), ONCE: whether a CORNER may not be passed twice (1; 0 at first: it may). "
            + "BEEN: STREETS (bits) that were gone already (none at first).");
        Town t = new Town();
        row(t, to(0, 8, 0, 0), x -> x.count(0), x -> x.count(1), x -> x.count(2), x -> x.count(4));
        row(t, to(8, 0, 23, 8), x -> x.set(1, 0), x -> x.set(1, 23), x -> x.set(1, 8), x -> x.count(1));
        refuses(t, BAD, x -> x.set(1, -1), x -> x.set(1, 24), x -> x.set(2, -1), x -> x.set(2, 2));
        // A corner twice: 1, on the way to 2 and back.
        t.streets(1, 12, 21, 10);
        same(ring(t, 2), 4, 15, 0, 4);
        t.set(2, 1);
        same(ring(t, 2), -1, -1, -1, -1);
        same(ring(t, 1), 2, 9, 0, 2);
        t.gone(8);
        same(ring(t, 1), -1, -1, -1, -1);
    }

    private static void kindsHead() {
        says(0, "KINDS: whether it MAY be gone from a CORNER, without or with a load, how many MINUTES it takes, which STREETS it SPENDS.");
        Town t = new Town().street(2, 37, 20, 5);
        same(asks(t, 0, 3), 1, 0, 20, 25);
        same(asks(t, 0, 7), 1, 0, 40, 50);
        row(t, to(1, 0), x -> x.told(0, 5), x -> x.gone(1));
        same(asks(t, 0, 3), 1, 0, 20, 25);
    }

    /** What a street of kind 0 answers by a law. */
    private static long[] plain(String law) {
        return asks(new Town().street(0, 12, 20, 5).law(law), 0, 1);
    }

    private static void kindStreet() {
        says(0, "0 STREET: if may of THE LAW isn't 0; walk, or, with a load, carry (1 .. 99, else the bound); itself.");
        same(plain("walk 1;carry 99;may 0;"), 0, 0, 1, 99);
        same(plain("walk 99;carry 1;may 1;"), 1, 1, 99, 1);
        same(plain("walk 0;carry 100;may 2;"), 1, 1, 1, 99);
        same(plain("walk 100;carry 0;may -1;"), 1, 1, 99, 1);
        same(plain("walk -1;carry 9999;may 1-1;"), 0, 0, 1, 99);
        same(plain("walk 9999*9999;carry 0-9999*9999;may 1024*1024*1024*2;"), 1, 1, 99, 1);
        same(plain("walk 1024*1024*1024*2;carry 1024*1024*1024*2-1;may 1024*1024*1024*4;"), 0, 0, 1, 99);
        Town t = new Town().streets(1, 1, 1);
        row(t, to(1, 2, 4), x -> x.told(0, 5), x -> x.told(1, 5), x -> x.told(2, 5));
        // From 99 and 99 on it is not bounded: the streets are.
        t = new Town().street(0, 1, 99, 99).street(0, 1, 99, 99);
        row(t, to(198, 198), x -> x.ring(1, 0), x -> x.heavy(1, 0));
    }

    private static void kindOneway() {
        says(0, "1 ONEWAY (a STREET): from the one CORNER alone.");
        Town t = new Town().street(1, 12, 20, 5).street(1, 21, 20, 5);
        same(asks(t, 0, 1), 1, 1, 20, 25);
        same(asks(t, 0, 2), 0, 0, 20, 25);
        same(asks(t, 1, 1), 0, 0, 20, 25);
        same(asks(t, 1, 2), 1, 1, 20, 25);
        t.law("walk from;carry to;may 0;");
        same(asks(t, 0, 1), 0, 0, 1, 2);
        same(asks(t, 0, 2), 0, 0, 2, 1);
        t = new Town().street(1, 1, 1, 1).street(1, 1, 1, 1);
        same(never(t), 0, 2, 508);
        same(never(t.street(1, 10, 1, 1)), 2, 0, 508);
    }

    private static void kindSteps() {
        says(0, "2 STEPS (a STREET): without a load alone (may is asked as of a STREET); from the other CORNER twice the MINUTES (99 at most).");
        Town t = new Town().street(2, 12, 49, 0).street(2, 12, 50, 49).street(2, 12, 99, 1).street(2, 12, 1, 48);
        same(asks(t, 0, 1), 1, 0, 49, 49);
        same(asks(t, 0, 2), 1, 0, 98, 98);
        same(asks(t, 1, 1), 1, 0, 50, 99);
        same(asks(t, 1, 2), 1, 0, 99, 99);
        same(asks(t, 2, 2), 1, 0, 99, 99);
        same(asks(t, 3, 2), 1, 0, 2, 98);
        // The bound of walk comes ahead of twice it.
        t.law("walk 0;carry 1024*1024*1024*2-1;may street<2;");
        same(asks(t, 0, 1), 1, 0, 1, 99);
        same(asks(t, 0, 2), 1, 0, 2, 99);
        same(asks(t, 2, 1), 0, 0, 1, 99);
        t = new Town().street(2, 1, 1, 0).street(2, 1, 1, 0);
        same(ring(t, 1), 3, 3, 0, 2);
        same(heavy(t, 1), -1, -1, -1, -1);
    }

    private static void kindBridge() {
        says(0, "3 BRIDGE (a STREET): SPENDS also all BRIDGES (GATES, too) with its MORE.");
        Town t = new Town();
        for (int kind = 0; kind < 6; kind++) t.street(kind, 1, 1, 99).street(kind, 1, 1, 98);
        long[] spent = new long[12];
        for (int s = 0; s < 12; s++) spent[s] = told(t, s)[5];
        int likeZero = 1 << 6 | 1 << 10, likeOne = 1 << 7 | 1 << 11;
        same(spent, 1, 2, 4, 8, 16, 32, likeZero, likeOne, 256, 512, likeZero, likeOne);
        t.with(x -> x.close(), x -> x.close());
        due(told(t, 6)[5], 1 << 6);
        t = new Town().street(3, 1, 5, 0).street(3, 1, 5, 0);
        same(asks(t, 0, 0), 1, 1, 5, 5);
        same(ring(t, 1), -1, -1, -1, -1);
        same(ring(t.street(3, 1, 5, 1), 1), 10, 5, 0, 2);
        // A street that is not a bridge is not spent by one, though its MORE is the same.
        same(ring(new Town().street(3, 1, 5, 0).street(4, 1, 5, 0), 1), 10, 3, 0, 2);
    }

    private static void kindSunny() {
        says(0, "4 SUNNY (a STREET): MORE MINUTES more from HOUR 12 on (99 at most).");
        Town t = new Town().street(4, 12, 50, 49).street(4, 12, 51, 49).street(4, 12, 99, 99).street(4, 12, 1, 0);
        t.set(1, 11);
        same(asks(t, 0, 1), 1, 1, 50, 99);
        same(asks(t, 1, 2), 1, 1, 51, 99);
        t.set(1, 12);
        same(asks(t, 0, 1), 1, 1, 99, 99);
        same(asks(t, 1, 2), 1, 1, 99, 99);
        same(asks(t, 2, 2), 1, 1, 99, 99);
        same(asks(t, 3, 2), 1, 1, 1, 1);
        // The bound of walk comes ahead of MORE.
        t.law("walk 0-9999;carry 1024*1024*1024*2-1;may 1;");
        same(asks(t, 0, 1), 1, 1, 50, 99);
        t.set(1, 23);
        same(asks(t, 1, 1), 1, 1, 50, 99);
        t.set(1, 0);
        same(asks(t, 1, 1), 1, 1, 1, 99);
    }

    private static void kindGate() {
        says(0, "5 GATE (a BRIDGE): ahead of HOUR 12 alone. (Whatever isn't told is as of the KIND above.)");
        Town t = new Town().street(5, 12, 20, 5).street(3, 12, 20, 5);
        long[] open = new long[24];
        for (int hour = 0; hour < 24; hour++) open[hour] = asks(t.set(1, hour), 0, 2)[0] + 2 * asks(t, 1, 1)[1];
        for (int hour = 0; hour < 24; hour++) due(open[hour], hour < 12 ? 3 : 2);
        t.set(1, 12);
        same(asks(t, 0, 1), 0, 0, 20, 25);
        same(told(t, 0), 5, 1, 2, 20, 5, 3);
        t.set(1, 11);
        same(asks(t, 0, 2), 1, 1, 20, 25);
    }

    private static void walks() {
        says(0, "A WALK begins at HOME; STREETS one behind the other, each from the CORNER to which the one ahead of it came; none that is in BEEN, "
            + "or SPENT by one that was gone in it; if ONCE is 1, to no CORNER that was passed "
            + "(HOME is passed at first; one may come back to it to end there).");
        Town t = new Town().street(0, 1, 5, 0).street(0, 12, 7, 0).street(0, 21, 9, 0).street(3, 12, 11, 4).street(5, 12, 13, 4).street(0, 20, 1, 0);
        row(t.sheet(0, 2, 1), to(0), x -> x.judge(0));
        row(t.sheet(0, 2, 0, 5), to(1), x -> x.judge(0));
        row(t.sheet(0, 2, 0, 0, 0), to(1), x -> x.judge(0));
        row(t.sheet(0, 2, 0, 1, 2, 1), to(3, 21, 1), x -> x.judge(0), x -> x.walk(0, 0), x -> x.walk(0, 1));
        row(t.sheet(0, 2, 0, 3, 4), to(2), x -> x.judge(0));
        row(t.sheet(0, 2, 0, 4, 2, 3), to(3), x -> x.judge(0));
        row(t.sheet(0, 2, 0, 1, 2), to(-1, 0, 1, 2), x -> x.judge(0), x -> x.gone(2), x -> x.judge(0), x -> x.gone(0));
        t.set(2, 1);
        row(t.sheet(0, 2, 0, 1, 2), to(2), x -> x.judge(0));
        row(t.sheet(0, 2, 0, 1, 5), to(-1, 13, 0), x -> x.judge(0), x -> x.walk(0, 0), x -> x.walk(0, 1));
        // What is in BEEN spends none.
        row(t.sheet(0, 2, 0, 4), to(0, -1), x -> x.gone(8), x -> x.judge(0));
        // From another home corner 0 is one as all.
        t.with(x -> x.gone(0)).set(0, 2);
        row(t.sheet(0, 2, 5, 0, 1), to(-1), x -> x.judge(0));
        row(t.sheet(0, 2, 5, 0, 5), to(2), x -> x.judge(0));
    }

    private static void rings() {
        says(0, "A RING to some CORNERS: a WALK of one STREET at least that comes home, having come to all of them (HOME needn't be among them); "
            + "it ends as soon as it does.");
        each(new Town(), -1, x -> x.round(0), x -> x.calls(0, -1, 0), x -> x.calls(1, -1, 0), x -> x.round(3));
        Town t = new Town().streets(1, 10, 2, 20);
        same(round(t), 2, 3, 0, 2);
        same(calls(t, 0, -1), 2, 3, 0, 2);
        same(calls(t, 1, -1), 2, 3, 0, 2);
        same(calls(t, 2, -1), 2, 3, 0, 2);
        same(calls(t, 3, -1), 2, 3, 0, 2);
        same(calls(t, 4, -1), 2, 12, 2, 2);
        // Home may be passed ahead of the last of them.
        same(calls(t, 6, -1), 4, 15, 0, 4);
        same(calls(t.set(2, 1), 6, -1), -1, -1, -1, -1);
    }

    private static void least() {
        says(0, "LEAST is one of fewest MINUTES; of like ones the first, STREET by STREET by their numbers.");
        same(ring(new Town().street(0, 1, 3, 0).street(0, 1, 2, 0).street(0, 1, 2, 0), 1), 4, 6, 1, 2);
        same(ring(new Town().street(0, 1, 2, 0).street(0, 1, 2, 0).street(0, 1, 2, 0), 1), 4, 3, 0, 2);
        // Fewer streets are no better, nor worse: 0 2 3 is ahead of 1 3, and 0 3 of 1 2 3.
        Town t = new Town().street(1, 2, 1, 0).street(1, 1, 3, 0).street(1, 21, 2, 0).street(1, 10, 4, 0);
        same(ring(t, 1), 7, 13, 0, 3);
        t = new Town().street(1, 1, 3, 0).street(1, 2, 1, 0).street(1, 21, 2, 0).street(1, 10, 4, 0);
        same(ring(t, 1), 7, 9, 0, 2);
        // The last street may be the first that is unlike.
        t = new Town().street(1, 1, 1, 0).street(1, 12, 1, 0).street(0, 20, 5, 0).street(0, 20, 5, 0).street(0, 20, 4, 0).street(0, 20, 4, 0);
        same(ring(t, 1), 6, 19, 0, 3);
    }

    private static void load() {
        says(0, "With a load from a CORNER on: all STREETS gone behind the one that came there first.");
        Town t = new Town().street(1, 1, 1, 10).street(1, 12, 2, 20).street(1, 21, 3, 30).street(1, 10, 4, 40);
        due(t.ask(x -> x.calls(6, 1, 0)), 1 + 22 + 33 + 44);
        due(t.ask(x -> x.calls(6, 2, 0)), 1 + 2 + 33 + 44);
        due(t.ask(x -> x.calls(6, -1, 0)), 10);
        due(t.ask(x -> x.heavy(1, 0)), 1 + 44);
        due(t.ask(x -> x.heavy(2, 0)), 80);
        // Home may be passed on the way, and the load come last.
        t = new Town().street(1, 1, 1, 10).street(1, 10, 2, 20).street(1, 2, 3, 30).street(1, 20, 4, 40);
        due(t.ask(x -> x.calls(6, 1, 0)), 3 + 4 + 1 + 22);
        t = new Town().street(2, 1, 1, 0).street(0, 10, 9, 1).street(0, 10, 5, 9).street(2, 10, 1, 0);
        same(heavy(t, 1), 1 + 10, 3, 0, 2);
    }

    private static void twoRings() {
        says(0, "TWO RINGS: one to some CORNERS, and then another one to others, that shares no STREET with it, nor any that is SPENT by it "
            + "(CORNERS may be passed in both); LEAST by all MINUTES together.");
        Town t = new Town().streets(1, 1);
        each(t, -1, x -> x.two(2, 2, 0));
        each(t.streets(1, 1), 4, x -> x.two(2, 2, 0));
        // The one spends what the other would go.
        t = new Town().street(3, 1, 1, 9).street(0, 1, 1, 0).street(5, 2, 1, 9).street(0, 2, 1, 0);
        each(t, -1, x -> x.two(2, 4, 0), x -> x.two(4, 2, 0));
        each(t.street(3, 2, 5, 8), 8, x -> x.two(2, 4, 0), x -> x.two(4, 2, 0));
        // Corner 1 is passed in both.
        t = new Town().streets(1, 1, 1, 1, 12, 21).set(2, 1);
        each(t, -1, x -> x.two(4, 2, 0));
        each(t.set(2, 0), 6, x -> x.two(4, 2, 0));
        t = new Town().streets(1, 12, 20, 1, 13, 30).set(2, 1);
        each(t, 6, x -> x.two(4, 8, 0), x -> x.two(2, 2, 0), x -> x.two(2, 8, 0));
        // Together least, though neither is least alone: 1 of 3 and 1 of 4, not 1 of 2 and none.
        t = new Town().street(0, 1, 1, 0).street(0, 1, 1, 0).street(0, 1, 2, 0).street(0, 1, 2, 0).street(0, 12, 1, 0).street(0, 20, 1, 0);
        row(t, to(2, 3, 6), x -> x.ring(1, 0), x -> x.ring(2, 0), x -> x.two(2, 4, 0));
    }

    private static void parts() {
        says(0, "PARTS, as if all STREETS could be gone either way (also those in BEEN): a STREET is a BOND, if without it its two CORNERS are not "
            + "joined by others; a PART: CORNERS joined without BONDS; BUILT are CORNERS at which a STREET ends.");
        Town t = new Town().street(1, 1, 1, 0).street(1, 1, 1, 0).street(5, 12, 1, 0).street(2, 34, 1, 0).street(3, 43, 1, 0).set(1, 23).gone(31);
        row(t, to(4, 3, 3, 4, 24, 24, 32, 256), x -> x.bond(8, 0), x -> x.bond(0, 1), x -> x.bond(1, 1), x -> x.bond(2, 1), x -> x.bond(3, 1),
            x -> x.bond(4, 1), x -> x.bond(5, 1), x -> x.bond(8, 1));
        row(t.law("walk 1;carry 1;may 0;"), to(4, 3), x -> x.bond(8, 0), x -> x.bond(0, 1));
        // Two parts with one bond each, and one without; corners 5 .. 8 are not built.
        row(t, to(2), x -> x.newly());
        row(t.with(x -> x.close()), to(12, 2), x -> x.bond(0, 0), x -> x.newly());
    }

    private static void drawn() {
        says(0, "DRAWN by a SEED (0 .. 99999): a WALK, without a load: LOTS: the first is (SEED and 1) times 48271 modulo 2147483647, each further one the "
            + "last times 48271 modulo 2147483647. Of all STREETS that may be next, by numbers, the one with the number (LOT modulo how many there are; "
            + "from 0), till one is home again, or there is none.");
        Town none = new Town();
        row(none, to(0, 0, 0, BAD, BAD), x -> x.drawn(0, 0), x -> x.drawn(99999, 1), x -> x.drawn(0, 2), x -> x.drawn(-1, 0), x -> x.drawn(100000, 0));
        // From 0 to 1, 12 streets of 1 .. 12 minutes: the first lot tells one of 12, the second one of 11.
        for (int seed : new int[] {0, 1, 44487, 44488, 99998, 99999}) {
            Town t = new Town();
            for (int s = 0; s < 12; s++) t.street(0, 1, s + 1, 99);
            long first = (seed + 1L) * 48271 % 2147483647, second = first * 48271 % 2147483647;
            long a = first % 12, b = second % 11;
            long minutes = a + 1 + (b < a ? b + 1 : b + 2);
            row(t, to(minutes, 0, 2), x -> x.drawn(seed, 0), x -> x.drawn(seed, 1), x -> x.drawn(seed, 2));
        }
        // Where only one may be next, whatever the lot: what is in BEEN, spent, not open is not among them.
        Town t = new Town().street(0, 1, 1, 0).street(0, 1, 2, 0).street(1, 10, 4, 0).street(3, 12, 8, 5).street(3, 12, 16, 5).gone(2).set(0, 2);
        for (int seed : new int[] {0, 1, 2, 3, 50000}) {
            long first = (seed + 1L) * 48271 % 2147483647, second = first * 48271 % 2147483647;
            long bridge = first % 2 == 0 ? 8 : 16, next = second % 2 == 0 ? 1 : 4;
            // From 1 home is barred, from 0 back to 1 only street 0 goes, and from there none but, if not gone, street 2.
            long behind = next == 1 ? 0 : 1;
            row(t, to(bridge + next + behind, next == 1 ? 0 : 1, next == 1 ? 2 : 3), x -> x.drawn(seed, 0), x -> x.drawn(seed, 1), x -> x.drawn(seed, 2));
        }
    }

    private static void image() {
        says(0, "AN IMAGE keeps HOME, THE HOUR, ONCE, BEEN, how many STREETS there are, THE LAW.");
        Town t = new Town().streets(1, 12, 20);
        t.text("walk 1;carry 1;may 1;");
        t.set(0, 8).set(1, 23).set(2, 1).gone(7).with(x -> x.force(1), x -> x.image());
        t.set(0, 0).set(1, 0).set(2, 0).gone(0).streets(78).with(x -> x.force(0)).feed("walk").sheet(2, 1, 5, 6);
        t.with(x -> x.back());
        // The tape, the texts, the sheets are not kept, nor put back.
        same(counts(t), 8, 23, 1, 3, 7, 2, 1, 4);
        row(t, to(1, -12, NO_SUCH), x -> x.cell(2, 1, 0), x -> x.cell(2, 2, 0), x -> x.told(3, 0));
    }

    private static void sheets() {
        says(0, "SHEETS 0 .. 3 are rows of numbers, or missing (as all are at first): of sort 0 bytes, 1 shorts, 2 ints, 40 at most.");
        Town t = new Town();
        each(t, MISSING, x -> x.judge(0), x -> x.judge(1), x -> x.judge(2), x -> x.judge(3));
        refuses(t, BAD, x -> x.judge(-1), x -> x.judge(4), x -> x.sheet(4, 0, 1), x -> x.sheet(-1, 0, 1), x -> x.sheet(0, 3, 1), x -> x.sheet(0, -2, 1),
            x -> x.sheet(0, 0, 41));
        each(t, 1, x -> x.sheet(0, 0, 40), x -> x.sheet(1, 1, 40), x -> x.sheet(2, 2, 40), x -> x.sheet(3, 2, 0));
        each(t, 1, x -> x.cell(0, 39, 1), x -> x.cell(1, 39, 1), x -> x.cell(2, 39, 1));
        each(t, OUTSIDE, x -> x.cell(0, 40, 1), x -> x.cell(1, 40, 1), x -> x.cell(2, 40, 1), x -> x.cell(3, 0, 1));
    }

    private static void refusals() {
        says(0, "REFUSALS, of several the first one told (a -1 that is an answer comes behind the refusal of a number): "
            + "NONE there is no such thing; BAD a number is not as told; STATE as told; FULL.");
        due(HomeByAnotherWay.NONE, -1);
        due(HomeByAnotherWay.BAD, -2);
        due(HomeByAnotherWay.STATE, -3);
        due(HomeByAnotherWay.FULL, -4);
        due(HomeByAnotherWay.NO, -4611686018427387904L);
        Town t = rich();
        refuses(t, NONE, x -> x.set(3, 99), x -> x.set(-1, -1));
        refuses(t, NO_SUCH, x -> x.told(12, 9), x -> x.asks(0, 5, 9), x -> x.ring(9, 9), x -> x.show(9, 9), x -> x.calls(2, 2, 9), x -> x.hours(0, 9));
        refuses(t, BAD, x -> x.calls(512, 3, 9), x -> x.two(0, 2, 9), x -> x.house(512, 9), x -> x.lane(0, 9), x -> x.walk(4, 9), x -> x.taken(21, 7),
            x -> x.sheet(4, 0, -1), x -> x.copy(4, -1, 3, -1, -1), x -> x.streetsBy(3, 3, -1, 1), x -> x.cell(4, -1, 0));
        refuses(t, MISSING, x -> x.walk(3, 9), x -> x.cell(3, 99, 0), x -> x.copy(0, 99, 3, 0, 1), x -> x.streetsBy(3, 0, 99, 1));
        refuses(t, UNLIKE, x -> x.copy(0, 99, 1, 0, 1), x -> x.streetsBy(0, 1, 99, 1));
        // A -1 that is an answer comes behind them.
        refuses(t, NO_WHAT, x -> x.ring(8, 9), x -> x.heavy(8, 9), x -> x.calls(256, -1, 9), x -> x.two(256, 2, 9), x -> x.house(511, 9), x -> x.hours(8, 9));
        refuses(t, BAD, x -> x.show(8, 9), x -> x.show(8, -1), x -> x.round(9));
        each(t, -1, x -> x.ring(8, 3), x -> x.heavy(8, 3), x -> x.calls(256, -1, 3), x -> x.two(256, 2, 1), x -> x.house(511, 1), x -> x.hours(8, 1),
            x -> x.show(8, 3));
    }

    private static void host() {
        says(0, "The host's: -11 nothing there, -12 a place outside, -13 of another sort or KIND, -14 a size below 0. "
            + "They change nothing, but where it is told.");
        Town t = rich();
        refuses(t, -11, x -> x.judge(3), x -> x.walk(3, 0), x -> x.cell(3, 0, 5), x -> x.copy(3, 0, 0, 0, 1), x -> x.copy(0, 0, 3, 0, 1),
            x -> x.streetsBy(3, 0, 0, 1), x -> x.taken(19, 0));
        refuses(t, -12, x -> x.cell(0, 4, 5), x -> x.cell(0, -1, 5), x -> x.copy(0, 1, 0, 0, 4), x -> x.copy(0, 0, 0, 1, 4), x -> x.taken(21, 0));
        refuses(t, -13, x -> x.copy(0, 0, 1, 0, 4), x -> x.copy(1, 0, 2, 0, 4), x -> x.streetsBy(1, 2, 0, 1), x -> x.taken(9, 1), x -> x.taken(0, 0));
        refuses(t, -14, x -> x.sheet(0, 0, -1), x -> x.sheet(2, 2, -1), x -> x.sheet(3, 1, MIN));
        // Where it is told: a FAULT empties the tape, streets by a sheet come ahead of the place outside.
        row(rich(), to(-107, 0), x -> x.text(), x -> x.count(7));
        row(rich(), to(-12, 12), x -> x.streetsBy(1, 1, 0, 3), x -> x.count(3));
        says(0, "What is asked changes nothing, but where it is told.");
        asking();
    }

    private static void asking() {
        Town t = rich();
        for (int c = -1; c <= 9; c++) {
            int at = c;
            changesNothing(t, x -> x.ring(at, 1), x -> x.heavy(at, 2), x -> x.gap(at), x -> x.bars(at), x -> x.part(at), x -> x.bond(at, 1),
                x -> x.hours(at, 1), x -> x.laws(at), x -> x.asks(3, at, 3), x -> x.taken(at, 6), x -> x.told(at, 5), x -> x.count(at));
        }
        for (int w = -1; w <= 4; w++) {
            int what = w;
            changesNothing(t, x -> x.calls(14, 1, what), x -> x.two(2, 12, what), x -> x.round(what), x -> x.never(what), x -> x.house(31, what),
                x -> x.lane(4, what), x -> x.judge(what), x -> x.walk(0, what), x -> x.drawn(77, what), x -> x.odds(5, 50, what, 0));
        }
        changesNothing(t, x -> x.bears(), x -> x.newly());
    }

    private static void leastWhats() {
        says(0, "In what follows what 0 .. 3 of a LEAST RING is: its MINUTES, its STREETS (bits), the first of them, how many they are; -1: there is none.");
        Town t = new Town().street(1, 12, 3, 1).street(1, 20, 4, 1).street(1, 1, 5, 1);
        same(ring(t, 1), 12, 7, 2, 3);
        same(heavy(t, 1), 14, 7, 2, 3);
        same(calls(t, 6, 2), 13, 7, 2, 3);
        same(round(t), 12, 7, 2, 3);
        same(ring(t, 3), -1, -1, -1, -1);
        same(heavy(t, 3), -1, -1, -1, -1);
        same(calls(t, 8, 3), -1, -1, -1, -1);
        same(round(t.gone(2)), -1, -1, -1, -1);
    }
}
