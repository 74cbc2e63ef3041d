/** Promises 18 to 27: places without, streets that bar, lanes, hours, texts. */
final class PlaceEdges extends Edges {
    private static final int ALL_HOURS = 16777215, FORENOON = 4095;

    private PlaceEdges() {
    }

    static void test() {
        never();
        bars();
        bears();
        part();
        house();
        houseRefused();
        lane();
        laneAlways();
        laneRefused();
        newly();
        bond();
        hours();
        hoursRefused();
        laws();
    }

    private static void never() {
        says(18, "CORNERS (bits) but HOME: what 0 to which there is a RING, 1 to which a way of STREETS (not in BEEN, each as it MAY be gone without a load; "
            + "none is SPENT) goes from HOME, but no RING, 2 to which none goes.");
        same(never(new Town()), 0, 0, 510);
        same(never(new Town().set(0, 8)), 0, 0, 255);
        same(never(new Town().set(0, 4)), 0, 0, 511 ^ 16);
        same(never(new Town().streets(1, 12, 23, 34, 45, 56, 67, 78, 80)), 510, 0, 0);
        same(never(new Town().streets(1, 12, 23, 34, 45, 56, 67, 78)), 0, 510, 0);
        // The way to the farthest is eight streets, told from the last to the first.
        same(never(new Town().streets(87, 76, 65, 54, 43, 32, 21, 10)), 0, 510, 0);
        // In BEEN; as it may be gone; steps are no bar; bridges spend none on a way.
        same(never(new Town().streets(1, 12).gone(1)), 0, 0, 510);
        same(never(new Town().streets(1, 12).gone(2)), 0, 2, 508);
        same(never(new Town().street(1, 1, 1, 0).street(1, 21, 1, 0).street(2, 3, 1, 0).street(2, 43, 1, 0)), 0, 2 | 8 | 16, 256 | 128 | 64 | 32 | 4);
        same(never(new Town().street(3, 1, 1, 0).street(3, 12, 1, 0).street(5, 23, 1, 0)), 0, 14, 496);
        same(never(new Town().street(3, 1, 1, 0).street(3, 12, 1, 0).street(5, 23, 1, 0).set(1, 12)), 0, 6, 504);
        same(never(new Town().streets(1, 12).law("walk 1;carry 1;may from<1;")), 0, 2, 508);
        same(never(new Town().streets(45).set(0, 4)), 0, 32, 511 ^ 48);
        // A ring has no load: it may go by steps.
        same(never(new Town().street(2, 1, 1, 0).street(2, 1, 1, 0)), 2, 0, 508);
        same(never(new Town().street(2, 1, 1, 0).street(2, 1, 1, 0).set(0, 1)), 1, 0, 508);
        // Whether a corner may be passed twice is no matter for a way, but for a ring.
        Town t = new Town().streets(1, 12, 21, 10);
        same(never(t), 6, 0, 504);
        same(never(t.set(2, 1)), 2, 4, 504);
        says(18, "BAD.");
        refuses(rich(), BAD, x -> x.never(-1), x -> x.never(3), x -> x.never(MIN), x -> x.never(MAX));
        refuses(new Town(), BAD, x -> x.never(-1), x -> x.never(3));
    }

    private static void bars() {
        says(19, "STREETS (bits) each of which alone, were it in BEEN, too, bars all RINGS to a CORNER.");
        Town t = new Town().streets(1, 1, 12, 21);
        row(t, to(15, 3), x -> x.bars(2), x -> x.bars(1));
        t.streets(1);
        row(t, to(12, 0), x -> x.bars(2), x -> x.bars(1));
        row(t.gone(1), to(30, 18, 1), x -> x.bars(2), x -> x.bars(1), x -> x.count(4));
        // All twelve.
        t = new Town();
        for (int e : new int[] {1, 12, 23, 34, 45, 56, 67, 78, 86, 64, 42, 20}) t.street(1, e, 99, 0);
        due(t.ask(x -> x.bars(7)), 4095);
        // A ring has no load: it may go by steps.
        row(new Town().street(2, 1, 1, 0).street(2, 1, 1, 0).street(2, 1, 1, 0).street(2, 12, 1, 0).street(2, 12, 1, 0), to(24, 0), x -> x.bars(2), x -> x.bars(1));
        row(new Town().street(2, 1, 1, 0).street(2, 1, 1, 0).set(0, 1), to(3), x -> x.bars(0));
        // Either of two bridges will do, but what both need bars.
        t = new Town().street(3, 1, 1, 0).street(3, 1, 1, 0).streets(1);
        row(t, to(4), x -> x.bars(1));
        says(19, "-5: no such CORNER, HOME;");
        t = rich();
        refuses(t, NO_SUCH, x -> x.bars(-1), x -> x.bars(9), x -> x.bars(0), x -> x.bars(MIN), x -> x.bars(MAX));
        refuses(t.again().set(0, 8), NO_SUCH, x -> x.bars(8));
        says(19, "STATE: there is none as it is.");
        refuses(t, STATE, x -> x.bars(8), x -> x.bars(6));
        refuses(new Town(), STATE, x -> x.bars(1), x -> x.bars(8));
        refuses(new Town().streets(1), STATE, x -> x.bars(1));
        refuses(new Town().streets(1, 1).gone(2), STATE, x -> x.bars(1));
    }

    private static void bears() {
        says(20, "STREETS (bits) by each of which alone, were it in BEEN, too, never(0) would be otherwise.");
        each(new Town(), 0, x -> x.bears());
        each(new Town().streets(1, 12, 34), 0, x -> x.bears());
        Town t = new Town().streets(1, 1, 12, 21, 45, 45);
        row(t, to(15), x -> x.bears());
        row(new Town().street(2, 1, 1, 0).street(2, 1, 1, 0), to(3), x -> x.bears());
        // One more to 1 bears none, but those to 2 do.
        row(t.streets(1), to(12), x -> x.bears());
        row(t.gone(2), to(1 | 4 | 8 | 64, 2), x -> x.bears(), x -> x.count(4));
        row(t.gone(8), to(0), x -> x.bears());
        t = new Town();
        for (int e : new int[] {1, 12, 23, 34, 45, 56, 67, 78, 86, 64, 42, 20}) t.street(1, e, 99, 0);
        row(t, to(4095), x -> x.bears());
    }

    private static void part() {
        says(21, "never(0), were HOME at a CORNER.");
        Town t = new Town().streets(1, 1, 12, 34, 43, 80, 80);
        long[] parts = {2 | 256, 1 | 256, 0, 16, 8, 0, 0, 0, 1 | 2};
        for (int c = 0; c <= 8; c++) {
            int corner = c;
            row(t, to(parts[c], 0), x -> x.part(corner), x -> x.count(0));
        }
        row(t.set(0, 5), to(0, 258), x -> x.never(0), x -> x.part(0));
        says(21, "-5: no such CORNER.");
        refuses(rich(), NO_SUCH, x -> x.part(-1), x -> x.part(9), x -> x.part(MIN), x -> x.part(MAX));
    }

    private static void house() {
        says(22, "The CORNER that as HOME has fewest MINUTES of LEAST RINGS to each of some CORNERS (bits; it itself needs none), together, of like ones the least "
            + "(what 0; -1: from none there are all), how many (1; -1).");
        // Of none, each corner has 0.
        row(new Town(), to(0, 0), x -> x.house(0, 0), x -> x.house(0, 1));
        row(new Town().set(0, 5), to(0, 0), x -> x.house(0, 0), x -> x.house(0, 1));
        for (int c = 0; c <= 8; c++) {
            int corner = c;
            row(rich(), to(corner, 0), x -> x.house(1 << corner, 0), x -> x.house(1 << corner, 1));
        }
        row(new Town(), to(-1, -1, -1, -1), x -> x.house(3, 0), x -> x.house(3, 1), x -> x.house(511, 0), x -> x.house(511, 1));
        Town t = new Town().street(0, 12, 4, 0).street(0, 12, 5, 0).street(0, 23, 1, 0).street(0, 23, 1, 0);
        row(t, to(1, 9, 2, 2, 1, 11), x -> x.house(6, 0), x -> x.house(6, 1), x -> x.house(12, 0), x -> x.house(12, 1), x -> x.house(10, 0), x -> x.house(10, 1));
        row(t, to(2, 11), x -> x.house(14, 0), x -> x.house(14, 1));
        row(t, to(-1, -1), x -> x.house(15, 0), x -> x.house(15, 1));
        // The corner may be none of them; all are away from home, too.
        t = new Town().streets(81, 81, 83, 83, 85, 85).set(0, 4);
        row(t, to(8, 6, 4), x -> x.house(42, 0), x -> x.house(42, 1), x -> x.count(0));
        // All nine, on a round.
        t = new Town().streets(1, 12, 23, 34, 45, 56, 67, 78, 80);
        row(t, to(0, 72), x -> x.house(511, 0), x -> x.house(511, 1));
        row(t.gone(1), to(-1, -1), x -> x.house(511, 0), x -> x.house(511, 1));
        // Bounded minutes each, summed without a bound.
        t = new Town();
        for (int e : new int[] {1, 1, 2, 2, 3, 3, 4, 4, 5, 5, 6, 6}) t.street(0, e, 99, 0);
        row(t, to(0, 6 * 198), x -> x.house(127, 0), x -> x.house(127, 1));
    }

    private static void houseRefused() {
        says(22, "BAD: set;");
        Town t = rich();
        refuses(t, BAD, x -> x.house(-1, 0), x -> x.house(512, 0), x -> x.house(MIN, 0), x -> x.house(MAX, 0), x -> x.house(512, 2));
        says(22, "-7: what.");
        refuses(t, NO_WHAT, x -> x.house(1, -1), x -> x.house(1, 2), x -> x.house(511, 2), x -> x.house(0, MIN), x -> x.house(0, MAX));
    }

    private static void lane() {
        says(23, "Two CORNERS (10 times the lesser, and the other one) by whose being joined by a STREET of KIND 0 of so many MINUTES (1 .. 99, with and without "
            + "a load, always) never(0) has most CORNERS, if more than it has, of like ones the least (what 0; -1: none), how many CORNERS (1).");
        // No streets: a lane alone makes no ring.
        row(new Town(), to(-1, 0, -1, 0), x -> x.lane(1, 0), x -> x.lane(1, 1), x -> x.lane(99, 0), x -> x.lane(99, 1));
        Town t = new Town().streets(78);
        row(t, to(-1, 0), x -> x.lane(1, 0), x -> x.lane(1, 1));
        row(t.set(0, 8), to(78, 1), x -> x.lane(1, 0), x -> x.lane(1, 1));
        row(t.set(0, 7), to(78, 1), x -> x.lane(99, 0), x -> x.lane(99, 1));
        // Of like ones the least: by 2 or by 3, both of which have but one way.
        t = new Town().streets(2, 3);
        row(t, to(23, 2), x -> x.lane(1, 0), x -> x.lane(1, 1));
        t = new Town().streets(4, 3);
        row(t, to(34, 2), x -> x.lane(1, 0), x -> x.lane(1, 1));
        t = new Town().streets(5, 6, 1).gone(4);
        row(t, to(56, 2), x -> x.lane(1, 0), x -> x.lane(1, 1));
        t = new Town().streets(1, 12, 20, 13, 14);
        row(t, to(34, 4), x -> x.lane(1, 0), x -> x.lane(1, 1));
        t = new Town().streets(1, 12, 20, 13, 24).set(2, 1);
        row(t, to(34, 4), x -> x.lane(1, 0), x -> x.lane(1, 1));
        // No more than it has: none.
        row(new Town().streets(1, 12, 23, 34, 45, 56, 67, 78, 80), to(-1, 8), x -> x.lane(1, 0), x -> x.lane(1, 1));
        row(new Town().streets(1, 1), to(-1, 1), x -> x.lane(1, 0), x -> x.lane(1, 1));
        row(new Town().streets(1, 12, 23, 34, 45, 56, 67, 78), to(8, 8), x -> x.lane(1, 0), x -> x.lane(1, 1));
    }

    private static void laneAlways() {
        // Whatever the law says; and it is neither a gate's, nor spent.
        Town t = new Town().streets(1, 12).law("walk 1;carry 1;may street<2;");
        row(t, to(2, 2), x -> x.lane(50, 0), x -> x.lane(50, 1));
        row(t.law("walk 1;carry 1;may 0;"), to(-1, 0), x -> x.lane(50, 0), x -> x.lane(50, 1));
        t = new Town().street(3, 1, 1, 0).street(3, 12, 1, 0).set(1, 23);
        row(t, to(1, 1), x -> x.lane(1, 0), x -> x.lane(1, 1));
        // Besides twelve streets.
        t = new Town();
        for (int i = 0; i < 12; i++) t.streets(1);
        row(t, to(-1, 1, 12), x -> x.lane(1, 0), x -> x.lane(1, 1), x -> x.count(3));
        t = new Town().streets(1, 12, 23, 34, 45, 56, 67, 78, 1, 12, 23, 34);
        row(t, to(8, 8), x -> x.lane(1, 0), x -> x.lane(1, 1));
        refuses(t, FULL, x -> x.street(0, 8, 1, 1));
        // Steps may be gone behind it and ahead of it.
        row(new Town().street(2, 1, 1, 0).street(2, 12, 1, 0), to(2, 2), x -> x.lane(1, 0), x -> x.lane(1, 1));
        row(new Town().street(2, 1, 1, 0).street(2, 12, 1, 0).set(0, 1), to(2, 2), x -> x.lane(1, 0), x -> x.lane(1, 1));
        // It may be gone either way, once; with ONCE 1 to no corner that was passed: not from 2 to 0 to come home to 3.
        row(new Town().street(1, 1, 1, 0).street(1, 20, 1, 0), to(12, 2), x -> x.lane(1, 0), x -> x.lane(1, 1));
        row(new Town().street(1, 2, 1, 0).street(1, 10, 1, 0), to(12, 2), x -> x.lane(1, 0), x -> x.lane(1, 1));
        Town once = new Town().streets(30, 3, 1, 12).set(0, 3);
        row(once, to(2, 3), x -> x.lane(1, 0), x -> x.lane(1, 1));
        row(once.set(2, 1), to(23, 3), x -> x.lane(1, 0), x -> x.lane(1, 1));
        // From a one-way street's end home.
        row(new Town().street(1, 12, 1, 0).street(1, 1, 1, 0), to(2, 2), x -> x.lane(1, 0), x -> x.lane(1, 1));
    }

    private static void laneRefused() {
        says(23, "BAD: takes;");
        Town t = rich();
        refuses(t, BAD, x -> x.lane(0, 0), x -> x.lane(100, 0), x -> x.lane(-1, 1), x -> x.lane(MIN, 0), x -> x.lane(MAX, 0), x -> x.lane(0, 2));
        says(23, "-7: what.");
        refuses(t, NO_WHAT, x -> x.lane(1, -1), x -> x.lane(99, 2), x -> x.lane(1, MIN), x -> x.lane(1, MAX));
        refuses(new Town(), NO_WHAT, x -> x.lane(1, -1), x -> x.lane(99, 2));
    }

    private static long lanes(int... ends) {
        return new Town().streets(ends).ask(x -> x.newly());
    }

    private static void newly() {
        says(24, "The fewest lanes by which all BUILT CORNERS would be one PART: 0, if they are (or there are none);");
        due(lanes(), 0);
        due(lanes(78, 87), 0);
        due(lanes(1, 12, 20), 0);
        due(lanes(1, 12, 23, 34, 45, 56, 67, 78, 80), 0);
        says(24, "else PARTS of BUILT CORNERS without BONDS, and half (cut up) of those with one BOND.");
        due(lanes(78), 1);
        due(lanes(1, 12), 1);
        due(lanes(1, 12, 23, 34, 45, 56, 67, 78), 1);
        due(lanes(1, 2, 3), 2);
        due(lanes(1, 2, 3, 4), 2);
        due(lanes(1, 2, 3, 4, 5, 6, 7), 4);
        due(lanes(1, 2, 3, 4, 5, 6, 7, 8), 4);
        due(lanes(1, 10, 23, 32), 2);
        due(lanes(1, 10, 23, 32, 45, 54, 67, 76), 4);
        due(lanes(1, 10, 23), 2);
        due(lanes(1, 23, 45, 67), 4);
        due(lanes(1, 12, 20, 23), 1);
        due(lanes(1, 12, 20, 23, 14), 1);
        due(lanes(1, 12, 20, 23, 14, 5), 2);
        // Parts with two bonds are of no count.
        due(lanes(1, 12, 21, 23, 34), 1);
        // Whatever is gone, and whichever way.
        Town t = new Town().street(1, 1, 1, 0).street(1, 1, 1, 0).street(5, 1, 1, 0).gone(7).set(1, 12);
        row(t, to(0), x -> x.newly());
        row(new Town().street(1, 1, 1, 0).gone(1), to(1), x -> x.newly());
    }

    private static void bond() {
        says(25, "What 0 BONDS (STREETS, bits), 1 the PART of a CORNER (bits).");
        Town t = new Town();
        for (int c = 0; c <= 8; c++) {
            int corner = c;
            row(t, to(0, 1 << corner), x -> x.bond(corner, 0), x -> x.bond(corner, 1));
        }
        t = new Town().streets(1, 12, 23, 34, 45, 56, 67, 78);
        row(t, to(255, 1, 256), x -> x.bond(0, 0), x -> x.bond(0, 1), x -> x.bond(8, 1));
        row(t.streets(80), to(0, 511, 511), x -> x.bond(4, 0), x -> x.bond(0, 1), x -> x.bond(8, 1));
        row(t.streets(80, 80, 80), to(0, 511), x -> x.bond(0, 0), x -> x.bond(3, 1));
        t = new Town();
        for (int i = 0; i < 11; i++) t.streets(1);
        row(t.streets(12), to(2048, 3, 4), x -> x.bond(7, 0), x -> x.bond(1, 1), x -> x.bond(2, 1));
        // HOME, too, has its part.
        row(t.set(0, 1), to(3), x -> x.bond(1, 1));
        says(25, "-5: no such CORNER;");
        refuses(rich(), NO_SUCH, x -> x.bond(-1, 0), x -> x.bond(9, 1), x -> x.bond(9, 0), x -> x.bond(MIN, 0), x -> x.bond(MAX, 1), x -> x.bond(9, 2));
        says(25, "-7: what.");
        refuses(rich(), NO_WHAT, x -> x.bond(0, -1), x -> x.bond(0, 2), x -> x.bond(8, MIN), x -> x.bond(8, MAX));
    }

    private static void hours() {
        says(26, "What 0 HOURS (bits 0 .. 23), were it so, at which there is a RING to a CORNER, 1 the one at which LEAST has fewest MINUTES, of like ones the first (-1).");
        row(new Town(), to(0, -1, 0, -1), x -> x.hours(1, 0), x -> x.hours(1, 1), x -> x.hours(8, 0), x -> x.hours(8, 1));
        for (int hour : new int[] {0, 11, 12, 23}) {
            row(new Town().streets(1, 1).set(1, hour), to(ALL_HOURS, 0, hour), x -> x.hours(1, 0), x -> x.hours(1, 1), x -> x.count(1));
            Town t = new Town().street(5, 1, 1, 1).street(0, 1, 1, 1).set(1, hour);
            row(t, to(FORENOON, 0, hour), x -> x.hours(1, 0), x -> x.hours(1, 1), x -> x.count(1));
            t = new Town().street(4, 1, 1, 1).street(0, 1, 9, 1).street(0, 1, 3, 0).law("walk base+0*hour;carry 1;may 11<hour;").set(1, hour);
            row(t, to(ALL_HOURS ^ FORENOON, 12), x -> x.hours(1, 0), x -> x.hours(1, 1));
        }
        for (int hour = 0; hour < 24; hour++) {
            int one = hour;
            row(new Town().streets(1, 1).law("walk 1;carry 1;may hour=" + hour + ";"), to(1 << one, one), x -> x.hours(1, 0), x -> x.hours(1, 1));
            row(new Town().streets(1, 1).law("walk 9-(hour=" + hour + ");carry 1;may 1;"), to(ALL_HOURS, one), x -> x.hours(1, 0), x -> x.hours(1, 1));
            row(new Town().streets(1, 1).law("walk 9-(" + hour + "<hour);carry 1;may not hour=0;"), to(ALL_HOURS ^ 1, hour == 23 ? 1 : Math.max(1, hour + 1)),
                x -> x.hours(1, 0), x -> x.hours(1, 1));
        }
        row(new Town().streets(1, 1).law("walk hour*-1+30;carry 1;may 1;"), to(ALL_HOURS, 23), x -> x.hours(1, 0), x -> x.hours(1, 1));
        // A ring has no load: it may go by steps; what carry says is no matter.
        row(new Town().street(2, 1, 1, 0).street(2, 1, 1, 0), to(ALL_HOURS, 0), x -> x.hours(1, 0), x -> x.hours(1, 1));
        // Sunny streets are the less till 12.
        row(new Town().streets(1, 1).law("walk 1;carry hour;may 1;"), to(0), x -> x.hours(1, 1));
        row(new Town().street(4, 1, 1, 20).street(4, 1, 1, 20).law("walk 20-hour;carry 1;may 1;"), to(11), x -> x.hours(1, 1));
        row(new Town().street(4, 1, 1, 5).street(4, 1, 1, 5).law("walk 20-hour;carry 1;may 1;"), to(19), x -> x.hours(1, 1));
        row(new Town().street(4, 1, 1, 5).street(4, 1, 1, 5).law("walk 40-hour;carry 1;may 1;"), to(23), x -> x.hours(1, 1));
    }

    private static void hoursRefused() {
        says(26, "-5: no such CORNER, HOME;");
        Town t = rich();
        refuses(t, NO_SUCH, x -> x.hours(-1, 0), x -> x.hours(9, 1), x -> x.hours(0, 0), x -> x.hours(MIN, 0), x -> x.hours(MAX, 0), x -> x.hours(0, 2));
        refuses(t.again().set(0, 8), NO_SUCH, x -> x.hours(8, 0), x -> x.hours(8, 1));
        says(26, "-7: what.");
        refuses(t, NO_WHAT, x -> x.hours(1, -1), x -> x.hours(1, 2), x -> x.hours(8, 2), x -> x.hours(1, MIN), x -> x.hours(1, MAX));
    }

    private static void laws() {
        says(27, "TEXTS (bits), were they THE LAW, by which there is a RING to a CORNER.");
        row(new Town(), to(0, 0), x -> x.laws(1), x -> x.laws(8));
        Town t = new Town().streets(1, 1, 12, 21);
        row(t, to(1, 1, 0), x -> x.laws(1), x -> x.laws(2), x -> x.laws(3));
        t.text("walk 1;carry 1;may street<2;");
        t.text("walk 1;carry 1;may 0;");
        t.text("walk 1;carry 1;may 11<hour;");
        t.text("walk 1;carry 1;may 0-1;");
        t.text("walk 1;carry 1;may not(street=0);");
        row(t, to(1 | 2 | 16, 1 | 16, 0), x -> x.laws(1), x -> x.laws(2), x -> x.laws(3));
        row(t.set(1, 12), to(1 | 2 | 8 | 16, 1 | 8 | 16), x -> x.laws(1), x -> x.laws(2));
        // A ring has no load: it may go by steps.
        row(new Town().street(2, 1, 1, 0).street(2, 1, 1, 0), to(1), x -> x.laws(1));
        row(new Town().street(2, 1, 1, 0).street(2, 1, 1, 0).set(0, 1), to(1), x -> x.laws(0));
        // Whichever is the law.
        row(t.with(x -> x.force(2)), to(1 | 2 | 8 | 16, 2), x -> x.laws(1), x -> x.count(6));
        row(t.gone(1), to(0, 0), x -> x.laws(1), x -> x.laws(2));
        says(27, "-5: no such CORNER, HOME.");
        refuses(rich(), NO_SUCH, x -> x.laws(-1), x -> x.laws(9), x -> x.laws(0), x -> x.laws(MIN), x -> x.laws(MAX));
        refuses(rich().set(0, 8), NO_SUCH, x -> x.laws(8));
    }
}
