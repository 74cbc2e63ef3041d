/** Promises 1 to 11: the town, the law. */
final class TownEdges extends Edges {
    private TownEdges() {
    }

    static void test() {
        newObject();
        set();
        count();
        feed();
        text();
        force();
        street();
        close();
        told();
        gone();
        asks();
    }

    private static void newObject() {
        says(1, "No STREETS.");
        Town t = new Town();
        same(counts(t), 0, 8, 0, 0, 0, 1, 0, 0);
        refuses(t, NO_SUCH, x -> x.told(0, 0), x -> x.asks(0, 0, 0), x -> x.ring(0, 0));
        refuses(t, STATE, x -> x.close(), x -> x.back(), x -> x.bars(1), x -> x.bars(8));
        refuses(t, MISSING, x -> x.judge(0), x -> x.walk(3, 0), x -> x.cell(1, 0, 0), x -> x.taken(9, 0), x -> x.taken(20, 5));
        refuses(t, BAD, x -> x.gone(1), x -> x.force(1));
        each(t, -1, x -> x.ring(1, 0), x -> x.heavy(8, 3), x -> x.gap(1), x -> x.calls(510, 8, 1), x -> x.two(2, 4, 0), x -> x.round(0), x -> x.house(3, 0),
            x -> x.lane(1, 0), x -> x.hours(1, 1), x -> x.show(1, 0));
        each(t, 0, x -> x.never(0), x -> x.never(1), x -> x.bears(), x -> x.part(0), x -> x.part(8), x -> x.house(0, 1), x -> x.lane(1, 1), x -> x.newly(),
            x -> x.bond(8, 0), x -> x.hours(1, 0), x -> x.laws(1), x -> x.drawn(0, 0), x -> x.drawn(0, 1), x -> x.drawn(0, 2), x -> x.odds(0, 50, 0, 0),
            x -> x.odds(0, 50, 1, 0), x -> x.image(), x -> x.back(), x -> x.gone(0), x -> x.taken(8, 6));
        row(t, to(510, 1, 256), x -> x.never(2), x -> x.bond(0, 1), x -> x.bond(8, 1));
        // Objects are each its own.
        Town other = rich();
        same(counts(new Town()), 0, 8, 0, 0, 0, 1, 0, 0);
        due(other.ask(x -> x.count(3)), 10);
        // All 512 calls are promised.
        t = new Town();
        for (int i = 0; i < 510; i++) t.ask(x -> x.count(0));
        row(t, to(0, 1), x -> x.street(0, 1, 1, 1), x -> x.street(0, 1, 1, 1));
    }

    private static void set() {
        says(2, "What 0 HOME, 1 THE HOUR, 2 ONCE becomes v: what was.");
        Town t = new Town();
        for (int v = 0; v <= 8; v++) {
            int home = v;
            row(t, to(Math.max(0, v - 1), v), x -> x.set(0, home), x -> x.count(0));
        }
        for (int v = 0; v <= 23; v++) {
            int hour = v;
            row(t, to(v == 0 ? 8 : v - 1, v), x -> x.set(1, hour), x -> x.count(1));
        }
        row(t, to(0, 0, 1, 1, 1, 0), x -> x.set(2, 0), x -> x.set(2, 1), x -> x.count(2), x -> x.set(2, 1), x -> x.set(2, 0), x -> x.count(2));
        row(t, to(8, 23), x -> x.count(0), x -> x.count(1));
        // Each is itself alone.
        same(counts(new Town().set(0, 1)), 1, 8, 0, 0, 0, 1, 0, 0);
        same(counts(new Town().set(1, 1)), 0, 1, 0, 0, 0, 1, 0, 0);
        same(counts(new Town().set(2, 1)), 0, 8, 1, 0, 0, 1, 0, 0);
        says(2, "NONE: what; BAD: v.");
        t = rich();
        refuses(t, NONE, x -> x.set(-1, 0), x -> x.set(3, 0), x -> x.set(MIN, 1), x -> x.set(MAX, 1));
        refuses(t, BAD, x -> x.set(0, -1), x -> x.set(0, 9), x -> x.set(0, MIN), x -> x.set(0, MAX));
        refuses(t, BAD, x -> x.set(1, -1), x -> x.set(1, 24), x -> x.set(1, MIN), x -> x.set(1, MAX));
        refuses(t, BAD, x -> x.set(2, -1), x -> x.set(2, 2), x -> x.set(2, MIN), x -> x.set(2, MAX));
        // NONE is told ahead of BAD.
        refuses(t, NONE, x -> x.set(3, 24), x -> x.set(-1, -1), x -> x.set(MAX, MIN));
    }

    private static void count() {
        says(3, "0 .. 2 as of set(), 3 STREETS, 4 BEEN (bits), 5 TEXTS, 6 THE LAW, 7 bytes of THE TAPE.");
        Town t = rich();
        same(counts(t), 0, 9, 0, 10, 256, 3, 0, 7);
        t.set(0, 7).set(1, 22).set(2, 1).gone(1023).with(x -> x.force(2)).feed("abc");
        same(counts(t), 7, 22, 1, 10, 1023, 3, 2, 10);
        t = new Town().streets(1, 1, 1, 1, 1, 1, 1, 1, 1, 1, 1, 1).gone(4095);
        same(counts(t), 0, 8, 0, 12, 4095, 1, 0, 0);
        says(3, "BAD.");
        refuses(rich(), BAD, x -> x.count(-1), x -> x.count(8), x -> x.count(MIN), x -> x.count(MAX));
    }

    private static void feed() {
        says(4, "The first n (1 .. 5) of five bytes (0 .. 255 each) come behind THE TAPE's, one by one: how many it has.");
        Town t = new Town();
        row(t, to(1, 3, 6, 10, 15), x -> x.feed(1, 0, 255, 255, 255, 255), x -> x.feed(2, 255, 0, 0, 0, 0), x -> x.feed(3, 1, 2, 3, 4, 5),
            x -> x.feed(4, 255, 255, 255, 255, 255), x -> x.feed(5, 0, 0, 0, 0, 0));
        // The first n, in their order, behind those that are there.
        t = new Town().with(x -> x.feed(1, 'w', 'x', 'x', 'x', 'x'), x -> x.feed(2, 'a', 'l', 'x', 'x', 'x'), x -> x.feed(3, 'k', ' ', '7', 'x', 'x'));
        t.with(x -> x.feed(4, '1', ';', 'c', 'a', 'x'), x -> x.feed(5, 'r', 'r', 'y', ' ', '9'), x -> x.feed(5, ';', 'm', 'a', 'y', ' '));
        row(t, to(22, 1, 0), x -> x.feed(2, '1', ';', 'x', 'x', 'x'), x -> x.text(), x -> x.force(1));
        same(asks(t.street(0, 1, 1, 1), 0, 0), 1, 1, 71, 9);
        says(4, "BAD: n, any of the five;");
        t = rich();
        refuses(t, BAD, x -> x.feed(0, 1, 1, 1, 1, 1), x -> x.feed(6, 1, 1, 1, 1, 1), x -> x.feed(-1, 1, 1, 1, 1, 1), x -> x.feed(MIN, 1, 1, 1, 1, 1),
            x -> x.feed(MAX, 1, 1, 1, 1, 1));
        for (int v : new int[] {-1, 256, MIN, MAX}) {
            refuses(t, BAD, x -> x.feed(5, v, 1, 1, 1, 1), x -> x.feed(5, 1, v, 1, 1, 1), x -> x.feed(5, 1, 1, v, 1, 1), x -> x.feed(5, 1, 1, 1, v, 1),
                x -> x.feed(5, 1, 1, 1, 1, v));
            // Any of the five, also one that would not come.
            refuses(t, BAD, x -> x.feed(1, 1, v, 1, 1, 1), x -> x.feed(2, 1, 1, v, 1, 1), x -> x.feed(3, 1, 1, 1, v, 1), x -> x.feed(4, 1, 1, 1, 1, v));
        }
        says(4, "FULL: not all of the n have room (none comes).");
        for (int room = 0; room < 5; room++) {
            int size = 160 - room;
            t = new Town().feed(" ".repeat(size));
            due(t.ask(x -> x.count(7)), size);
            for (int n = room + 1; n <= 5; n++) {
                int many = n;
                refuses(t, FULL, x -> x.feed(many, 'x', 'x', 'x', 'x', 'x'));
            }
            int rest = room;
            if (room > 0) due(t.ask(x -> x.feed(rest, ' ', ' ', ' ', ' ', ' ')), 160);
            refuses(t, FULL, x -> x.feed(1, ' ', ' ', ' ', ' ', ' '));
            // BAD is told ahead of it.
            refuses(t, BAD, x -> x.feed(6, 1, 1, 1, 1, 1), x -> x.feed(5, 1, 1, 1, 1, 256), x -> x.feed(1, 1, 1, 1, 1, -1), x -> x.feed(0, 1, 1, 1, 1, 1));
            due(t.ask(x -> x.text()), -260);
        }
    }

    private static void text() {
        says(5, "THE TAPE, which is empty then (by a FAULT, too), is a TEXT: its number; -100 less the place of its FAULT.");
        row(new Town(), to(-100, 0, 1), x -> x.text(), x -> x.count(7), x -> x.count(5));
        Town t = new Town().feed("walk 5;carry 6;may 1;");
        row(t, to(1, 0, 2, 0, -100), x -> x.text(), x -> x.count(7), x -> x.count(5), x -> x.count(6), x -> x.text());
        t.feed("walk 5;carry 6;may 1;;");
        row(t, to(-121, 0, 2, -100), x -> x.text(), x -> x.count(7), x -> x.count(5), x -> x.text());
        // What was ahead of a fault is no part of the next text.
        due(t.text("walk 1;"), -107);
        due(t.text("walk 8;carry 6;may 1;"), 2);
        // A fault leaves the texts and the law as they were.
        t = rich();
        Town faulty = t.again().with(x -> x.text());
        row(faulty, to(3, 0), x -> x.count(5), x -> x.count(6));
        same(asks(faulty.with(x -> x.force(1)), 0, 0), 1, 1, 6, 9);
        same(asks(faulty.with(x -> x.force(2)), 0, 0), 1, 1, 9, 1);
        due(new Town().text(" ".repeat(160)), -260);
        says(5, "FULL (ahead of the FAULT; then THE TAPE stays).");
        t = new Town();
        for (int i = 1; i < 6; i++) due(t.text("walk 1;carry 1;may 1;"), i);
        refuses(t, FULL, x -> x.text());
        refuses(t.feed("walk x"), FULL, x -> x.text(), x -> x.text());
        row(t, to(6, 7), x -> x.count(7), x -> x.feed(1, ';', 0, 0, 0, 0));
        t.feed(" ".repeat(153));
        refuses(t, FULL, x -> x.text(), x -> x.feed(1, 0, 0, 0, 0, 0));
        row(t, to(160, 6, 0), x -> x.count(7), x -> x.count(5), x -> x.count(6));
    }

    private static void force() {
        says(6, "A TEXT is THE LAW: which was.");
        Town t = new Town().street(0, 1, 5, 6);
        row(t, to(0), x -> x.force(0));
        t.text("walk 7;carry 8;may 0;");
        row(t, to(0, 5, 0, 7, 1, 1, 5), x -> x.count(6), x -> x.asks(0, 0, 2), x -> x.force(1), x -> x.asks(0, 0, 2), x -> x.force(1), x -> x.force(0),
            x -> x.asks(0, 0, 2));
        for (int i = 2; i < 6; i++) t.text("walk 7;carry 8;may 0;");
        row(t, to(0, 5), x -> x.force(5), x -> x.force(0));
        says(6, "BAD.");
        refuses(new Town(), BAD, x -> x.force(1), x -> x.force(-1));
        refuses(rich(), BAD, x -> x.force(-1), x -> x.force(3), x -> x.force(6), x -> x.force(MIN), x -> x.force(MAX));
        refuses(t, BAD, x -> x.force(6), x -> x.force(-1));
    }

    private static void street() {
        says(7, "A STREET (ends: 10 times the one CORNER, and the other one, unlike ones): its number.");
        for (int ends = -12; ends <= 112; ends++) {
            int one = ends / 10, other = ends % 10, its = ends;
            boolean can = ends >= 0 && one <= 8 && other <= 8 && one != other;
            Town t = new Town();
            due(t.ask(x -> x.street(0, its, 1, 0)), can ? 0 : BAD);
            due(t.ask(x -> x.count(3)), can ? 1 : 0);
            if (can) same(told(t, 0), 0, one, other, 1, 0, 1);
        }
        Town t = new Town();
        for (int s = 0; s < 12; s++) {
            int number = s;
            due(t.ask(x -> x.street(number % 6, 10 * (number % 8) + 8, number + 1, 99 - number)), s);
        }
        for (int s = 0; s < 12; s++) same(java.util.Arrays.copyOf(told(t, s), 5), s % 6, s % 8, 8, s + 1, 99 - s);
        says(7, "BAD; FULL.");
        Town r = rich();
        refuses(r, BAD, x -> x.street(-1, 1, 1, 0), x -> x.street(6, 1, 1, 0), x -> x.street(MIN, 1, 1, 0), x -> x.street(MAX, 1, 1, 0));
        refuses(r, BAD, x -> x.street(0, 0, 1, 0), x -> x.street(0, 11, 1, 0), x -> x.street(0, 88, 1, 0), x -> x.street(0, 9, 1, 0), x -> x.street(0, 89, 1, 0),
            x -> x.street(0, 90, 1, 0), x -> x.street(0, 98, 1, 0), x -> x.street(0, 99, 1, 0), x -> x.street(0, 100, 1, 0), x -> x.street(0, 101, 1, 0),
            x -> x.street(0, -1, 1, 0), x -> x.street(0, -10, 1, 0), x -> x.street(0, -12, 1, 0), x -> x.street(0, MIN, 1, 0), x -> x.street(0, MAX, 1, 0));
        refuses(r, BAD, x -> x.street(0, 1, 0, 0), x -> x.street(0, 1, 100, 0), x -> x.street(0, 1, -1, 0), x -> x.street(0, 1, MIN, 0), x -> x.street(0, 1, MAX, 0));
        refuses(r, BAD, x -> x.street(0, 1, 1, -1), x -> x.street(0, 1, 1, 100), x -> x.street(0, 1, 1, MIN), x -> x.street(0, 1, 1, MAX));
        refuses(t, FULL, x -> x.street(0, 1, 1, 0), x -> x.street(5, 80, 99, 99));
        refuses(t, BAD, x -> x.street(6, 1, 1, 0), x -> x.street(0, 11, 1, 0), x -> x.street(0, 1, 0, 0), x -> x.street(0, 1, 1, 100));
    }

    private static void close() {
        says(8, "The latest STREET is none any more (nor in BEEN; nor is there an IMAGE that has it): how many there are.");
        Town t = new Town();
        for (int s = 0; s < 12; s++) t.street(s % 6, 1, s + 1, s);
        t.gone(4095);
        for (int left = 11; left >= 0; left--) {
            int last = left;
            row(t, to(left, left, (1 << left) - 1, NO_SUCH), x -> x.close(), x -> x.count(3), x -> x.count(4), x -> x.told(last, 0));
        }
        // One that comes by its number is another one, and not in BEEN.
        t = new Town().streets(1, 1, 1).gone(6).with(x -> x.close());
        row(t, to(2, 2, 5), x -> x.street(4, 12, 5, 6), x -> x.count(4), x -> x.told(2, 3));
        // An image that doesn't have it stays; one that has it is none, also when a street comes by its number.
        t = new Town().streets(1, 1).with(x -> x.image()).streets(1);
        row(t, to(2, 2), x -> x.close(), x -> x.back());
        row(t, to(1, STATE, 1, STATE, 2, 2), x -> x.close(), x -> x.back(), x -> x.street(0, 1, 1, 1), x -> x.back(), x -> x.image(), x -> x.back());
        // An image without streets has none that could be closed.
        t = new Town().with(x -> x.image()).streets(1).with(x -> x.close());
        row(t, to(0), x -> x.back());
        // A bridge that is closed is spent by none.
        t = new Town().street(3, 1, 1, 7).street(5, 1, 1, 7);
        row(t, to(3, 1, 1), x -> x.told(0, 5), x -> x.close(), x -> x.told(0, 5));
        says(8, "STATE: there is none.");
        refuses(new Town(), STATE, x -> x.close(), x -> x.close());
        refuses(t.with(x -> x.close()), STATE, x -> x.close());
        refuses(new Town().set(0, 3).with(x -> x.image()).set(0, 4), STATE, x -> x.close());
    }

    private static void told() {
        says(9, "Of a STREET what 0 KIND, 1 the one CORNER, 2 the other one, 3 BASE, 4 MORE, 5 STREETS (bits) that it SPENDS.");
        Town t = rich();
        same(told(t, 0), 0, 0, 1, 5, 2, 1);
        same(told(t, 4), 3, 3, 4, 7, 1, 16 | 32);
        same(told(t, 5), 5, 4, 2, 2, 1, 16 | 32);
        same(told(t, 9), 0, 2, 5, 1, 1, 512);
        // As it is told, whatever BEEN, THE HOUR and THE LAW.
        t.gone(1023).set(1, 23).with(x -> x.force(2));
        same(told(t, 5), 5, 4, 2, 2, 1, 16 | 32);
        says(9, "-5: no such STREET;");
        refuses(t, NO_SUCH, x -> x.told(10, 0), x -> x.told(-1, 0), x -> x.told(11, 0), x -> x.told(12, 0), x -> x.told(MIN, 0), x -> x.told(MAX, 0));
        refuses(t, NO_SUCH, x -> x.told(10, 6), x -> x.told(-1, -1));
        says(9, "-7: what.");
        refuses(t, NO_WHAT, x -> x.told(0, -1), x -> x.told(0, 6), x -> x.told(9, MIN), x -> x.told(9, MAX));
    }

    private static void gone() {
        says(10, "BEEN becomes set (bits): what it was.");
        Town t = new Town().streets(1, 1, 1, 1);
        row(t, to(0, 15, 0, 8, 8), x -> x.gone(15), x -> x.gone(0), x -> x.gone(8), x -> x.gone(8), x -> x.count(4));
        same(ring(t, 1), 2, 3, 0, 2);
        same(ring(t.gone(1), 1), 2, 6, 1, 2);
        same(ring(t.gone(7), 1), -1, -1, -1, -1);
        row(new Town(), to(0), x -> x.gone(0));
        t = new Town().streets(1, 1, 1, 1, 1, 1, 1, 1, 1, 1, 1, 1);
        row(t, to(0, 4095, 4095), x -> x.gone(4095), x -> x.count(4), x -> x.gone(0));
        says(10, "BAD.");
        refuses(t, BAD, x -> x.gone(4096), x -> x.gone(-1), x -> x.gone(MIN), x -> x.gone(MAX), x -> x.gone(8191));
        refuses(rich(), BAD, x -> x.gone(-1), x -> x.gone(MIN), x -> x.gone(4096), x -> x.gone(MAX));
        // Bits of what is no street.
        refuses(rich(), BAD, x -> x.gone(1024), x -> x.gone(2048), x -> x.gone(1025));
    }

    private static void asks() {
        says(11, "Of a STREET from one of its CORNERS what 0 whether it MAY be gone, 1 with a load (1, 0), 2 its MINUTES, 3 with a load (whether it may be or not).");
        Town t = new Town().street(2, 80, 30, 40).street(5, 80, 30, 80);
        same(asks(t, 0, 8), 1, 0, 30, 70);
        same(asks(t, 0, 0), 1, 0, 60, 99);
        same(asks(t, 1, 8), 1, 1, 30, 99);
        same(asks(t.set(1, 12), 1, 8), 0, 0, 30, 99);
        // In BEEN or not.
        same(asks(t.gone(3), 0, 0), 1, 0, 60, 99);
        t.law("walk 2;carry 3;may 7;");
        same(asks(t, 0, 8), 1, 0, 2, 3);
        t.law("walk 2;carry 3;may 0;");
        same(asks(t, 0, 8), 0, 0, 2, 3);
        says(11, "-5: STREET, not one of its CORNERS;");
        refuses(t, NO_SUCH, x -> x.asks(2, 8, 0), x -> x.asks(-1, 8, 0), x -> x.asks(12, 8, 0), x -> x.asks(MIN, 0, 0), x -> x.asks(MAX, 0, 0));
        refuses(t, NO_SUCH, x -> x.asks(0, 1, 0), x -> x.asks(0, 7, 0), x -> x.asks(0, -1, 0), x -> x.asks(0, 9, 0), x -> x.asks(0, MIN, 0), x -> x.asks(0, MAX, 0));
        refuses(t, NO_SUCH, x -> x.asks(2, 8, 4), x -> x.asks(0, 1, -1), x -> x.asks(-1, -1, -1));
        says(11, "-7: what.");
        refuses(t, NO_WHAT, x -> x.asks(0, 8, -1), x -> x.asks(0, 0, 4), x -> x.asks(1, 0, MIN), x -> x.asks(1, 8, MAX));
    }
}
