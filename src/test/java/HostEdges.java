/** Promises 35 to 39: the host. */
final class HostEdges extends Edges {
    private HostEdges() {
    }

    static void test() {
        sheet();
        sheetRefused();
        cell();
        cellRefused();
        copy();
        copyRefused();
        streetsBy();
        streetsByRefused();
        streetsByOutside();
        taken();
        takenRefused();
    }

    /** How many numbers a sheet has: each place below that is one, that place is none. */
    private static void sized(Town t, int s, int sort, int size) {
        if (size > 0) each(t, 1, x -> x.cell(s, 0, 0), x -> x.cell(s, size - 1, 0));
        each(t, OUTSIDE, x -> x.cell(s, size, 0), x -> x.cell(s, -1, 0));
        for (int as = 0; as < 3; as++) {
            int its = as;
            each(t, as == sort ? 0 : UNLIKE, x -> x.streetsBy(s, its, 0, 0));
        }
        each(t, size, x -> x.copy(s, 0, s, 0, size));
        each(t, OUTSIDE, x -> x.copy(s, 0, s, 0, size + 1));
    }

    private static void sheet() {
        says(35, "A SHEET becomes a row of n of a sort, all 0, or missing (sort -1: n does not matter): 1.");
        for (int s = 0; s < 4; s++) {
            for (int sort = 0; sort < 3; sort++) {
                int sheet = s, its = sort;
                for (int size : new int[] {0, 1, 39, 40}) {
                    Town t = new Town();
                    each(t, 1, x -> x.sheet(sheet, its, size));
                    sized(t, s, sort, size);
                    each(t, MISSING, x -> x.judge((sheet + 1) % 4), x -> x.judge((sheet + 3) % 4));
                }
                for (int n : new int[] {0, 1, -1, 40, 41, MIN, MAX}) {
                    Town t = new Town().sheet(s, sort, 5, 6);
                    row(t, to(1, MISSING, MISSING), x -> x.sheet(sheet, -1, n), x -> x.cell(sheet, 0, 1), x -> x.judge(sheet));
                    row(t, to(1, MISSING), x -> x.sheet(sheet, -1, n), x -> x.judge(sheet));
                }
            }
        }
        // All 0, also where there was a row: street 0 goes, and then goes no more.
        Town t = new Town().streets(1, 1).sheet(0, 2, 1, 1, 1);
        row(t, to(1, 1, 1, 1), x -> x.sheet(0, 2, 3), x -> x.judge(0), x -> x.walk(0, 0), x -> x.walk(0, 1));
        row(t.sheet(0, 1, 1, 1), to(1, 1, 1), x -> x.sheet(0, 0, 40), x -> x.judge(0), x -> x.walk(0, 0));
        row(t.sheet(0, 2, 7, 7, 7).with(x -> x.sheet(0, 2, 1), x -> x.sheet(0, 2, 3)), to(1, 1), x -> x.judge(0), x -> x.walk(0, 1));
        // Of a row made anew none of the old is left: no street is of base 0.
        t = new Town().sheet(0, 2, 0, 1, 5, 0);
        row(t, to(1, 1, 0, 1), x -> x.streetsBy(0, 2, 0, 1), x -> x.sheet(0, 2, 4), x -> x.streetsBy(0, 2, 0, 1), x -> x.count(3));
    }

    private static void sheetRefused() {
        says(35, "BAD: SHEET, sort, n above 40;");
        Town t = rich();
        refuses(t, BAD, x -> x.sheet(-1, 0, 1), x -> x.sheet(4, 0, 1), x -> x.sheet(MIN, 0, 1), x -> x.sheet(MAX, 0, 1), x -> x.sheet(4, -1, 0));
        refuses(t, BAD, x -> x.sheet(0, -2, 1), x -> x.sheet(0, 3, 1), x -> x.sheet(0, MIN, 1), x -> x.sheet(0, MAX, 1));
        refuses(t, BAD, x -> x.sheet(0, 0, 41), x -> x.sheet(1, 1, 41), x -> x.sheet(2, 2, 41), x -> x.sheet(3, 0, MAX));
        says(35, "-14.");
        refuses(t, BELOW_ZERO, x -> x.sheet(0, 0, -1), x -> x.sheet(1, 1, -1), x -> x.sheet(2, 2, -1), x -> x.sheet(3, 0, MIN));
        // BAD is told ahead of it.
        refuses(t, BAD, x -> x.sheet(4, 0, -1), x -> x.sheet(-1, 2, MIN), x -> x.sheet(0, 3, -1), x -> x.sheet(0, -2, -1));
    }

    private static void cell() {
        says(36, "Number i of a SHEET becomes v (of bytes, shorts its lowest 8, 16 bits): 1.");
        // Street 1 leads from home; which numbers are it, of a sort?
        Town t = new Town().streets(12, 1);
        int[] vs = {1, 257, 1 - 256, 65537, 1 - 65536, 1 << 31 | 1, 1 << 16 | 257, 2, 255, 256, 0, -1, MAX, MIN};
        for (int sort = 0; sort < 3; sort++) {
            int its = sort, bits = sort == 0 ? 256 : 65536;
            for (int v : vs) {
                boolean isOne = sort == 2 ? v == 1 : Math.floorMod(v, bits) == 1;
                row(t.again(), to(1, 1, isOne ? -1 : 0), x -> x.sheet(0, its, 1), x -> x.cell(0, 0, v), x -> x.judge(0));
            }
        }
        // What a street is made by.
        t = new Town().sheet(0, 0, 0, 80, 355, 99);
        row(t, to(1, 8, 99, 99), x -> x.streetsBy(0, 0, 0, 1), x -> x.told(0, 1), x -> x.told(0, 3), x -> x.told(0, 4));
        t = new Town().sheet(0, 1, 65536, 65536 * 7 + 8, 65635, 99 - 65536);
        row(t, to(1, 0, 8, 99, 99), x -> x.streetsBy(0, 1, 0, 1), x -> x.told(0, 1), x -> x.told(0, 2), x -> x.told(0, 3), x -> x.told(0, 4));
        // The others stay; the first and the last of forty.
        t = new Town().streets(1, 1).sheet(0, 2, 0, 1);
        row(t, to(-1, 1, 1, 1, -1), x -> x.judge(0), x -> x.cell(0, 1, 7), x -> x.judge(0), x -> x.cell(0, 1, 1), x -> x.judge(0));
        t = new Town().with(x -> x.sheet(0, 0, 40), x -> x.sheet(1, 0, 40));
        each(t, 1, x -> x.cell(0, 0, 5), x -> x.cell(0, 39, 5), x -> x.cell(1, 39, MAX));
    }

    private static void cellRefused() {
        says(36, "BAD: SHEET; -11; -12.");
        Town t = rich();
        refuses(t, BAD, x -> x.cell(-1, 0, 0), x -> x.cell(4, 0, 0), x -> x.cell(MIN, 0, 0), x -> x.cell(MAX, 0, 0), x -> x.cell(4, -1, 0));
        refuses(t, MISSING, x -> x.cell(3, 0, 0), x -> x.cell(3, -1, 0), x -> x.cell(3, 40, 0));
        refuses(t, OUTSIDE, x -> x.cell(0, -1, 0), x -> x.cell(0, 4, 0), x -> x.cell(0, MIN, 0), x -> x.cell(0, MAX, 0), x -> x.cell(1, 8, 0), x -> x.cell(2, 9, 0));
        refuses(new Town().with(x -> x.sheet(0, 0, 0), x -> x.sheet(1, 1, 40)), OUTSIDE, x -> x.cell(0, 0, 0), x -> x.cell(1, 40, 0), x -> x.cell(1, -1, 0));
    }

    private static void copy() {
        says(37, "n numbers of a SHEET, from i on, come to another one's (or its own) place j (as they were): n.");
        // Six streets from corner to corner, so that a walk tells in which row they stand.
        Town t = new Town().streets(1, 12, 23, 34, 45, 56);
        Town two = t.again().sheet(0, 0, 0, 1, 2, 3, 4, 5).sheet(1, 0, 9, 9, 9, 9, 9, 9, 9);
        row(two.again(), to(6, 6, 6), x -> x.copy(0, 0, 1, 0, 6), x -> x.judge(1), x -> x.walk(1, 1));
        row(two.again(), to(1, 1, 1, 3, 5), x -> x.copy(0, 0, 1, 0, 1), x -> x.judge(1), x -> x.copy(0, 1, 1, 1, 1), x -> x.copy(0, 2, 1, 2, 3),
            x -> x.judge(1));
        row(two.again(), to(1, 0, 0, 0), x -> x.copy(0, 5, 1, 6, 1), x -> x.judge(1), x -> x.walk(1, 1), x -> x.copy(0, 0, 1, 7, 0));
        // None: from any place, also that behind the last.
        row(two.again(), to(0, 0, 0, 0, 0, -1), x -> x.copy(0, 6, 1, 0, 0), x -> x.copy(0, 0, 1, 7, 0), x -> x.copy(0, 6, 1, 7, 0), x -> x.copy(0, 3, 0, 3, 0),
            x -> x.judge(1), x -> x.judge(0));
        // Its own, forwards and backwards over itself, as they were.
        row(t.again().sheet(0, 2, 0, 1, 2, 3, 9, 9), to(4, 2, 4, 4, 4), x -> x.copy(0, 0, 0, 2, 4), x -> x.judge(0), x -> x.copy(0, 2, 0, 0, 4),
            x -> x.judge(0), x -> x.walk(0, 1));
        row(t.again().sheet(0, 2, 9, 0, 1, 2, 3, 9), to(4, 4, 4), x -> x.copy(0, 1, 0, 0, 4), x -> x.judge(0), x -> x.walk(0, 1));
        row(t.again().sheet(0, 2, 0, 1, 2, 9, 9).sheet(1, 2, 8, 8, 8, 8, 8), to(3, 0, 3, 3), x -> x.copy(0, 0, 0, 1, 3), x -> x.judge(1),
            x -> x.copy(0, 1, 1, 0, 3), x -> x.judge(1));
        row(t.again().sheet(0, 1, 0, 1, 2), to(3, -1), x -> x.copy(0, 0, 0, 0, 3), x -> x.judge(0));
        // All forty.
        row(new Town().with(x -> x.sheet(2, 1, 40), x -> x.sheet(3, 1, 40)), to(40, 40, 1, 39), x -> x.copy(2, 0, 3, 0, 40), x -> x.copy(3, 0, 3, 0, 40),
            x -> x.copy(2, 39, 3, 0, 1), x -> x.copy(2, 0, 2, 1, 39));
        // Those of the sheet they come from stay.
        row(two.again(), to(6, -1), x -> x.copy(0, 0, 1, 1, 6), x -> x.judge(0));
    }

    private static void copyRefused() {
        says(37, "BAD: SHEETS; -11; -13: unlike sorts; -12 (n below 0, too).");
        Town t = rich().sheet(3, 0, 7, 8, 9, 7, 8);
        refuses(t, BAD, x -> x.copy(-1, 0, 0, 0, 1), x -> x.copy(4, 0, 0, 0, 1), x -> x.copy(0, 0, -1, 0, 1), x -> x.copy(0, 0, 4, 0, 1), x -> x.copy(MIN, 0, MAX, 0, 1));
        Town without = rich();
        refuses(without, BAD, x -> x.copy(3, -1, 4, 0, 1), x -> x.copy(4, 0, 3, 0, -1));
        refuses(without, MISSING, x -> x.copy(3, 0, 0, 0, 1), x -> x.copy(0, 0, 3, 0, 1), x -> x.copy(3, 0, 3, 0, 0), x -> x.copy(0, -1, 3, 0, -1), x -> x.copy(3, 9, 2, 9, 9));
        refuses(t, UNLIKE, x -> x.copy(0, 0, 1, 0, 1), x -> x.copy(1, 0, 2, 0, 1), x -> x.copy(2, 0, 3, 0, 1), x -> x.copy(0, 0, 2, 0, 0), x -> x.copy(0, -1, 1, 0, -1));
        refuses(t, OUTSIDE, x -> x.copy(0, -1, 3, 0, 1), x -> x.copy(0, 0, 3, -1, 1), x -> x.copy(0, 4, 3, 0, 1), x -> x.copy(0, 0, 3, 5, 1), x -> x.copy(0, 0, 3, 0, 5),
            x -> x.copy(3, 0, 0, 0, 5), x -> x.copy(0, 1, 3, 0, 4), x -> x.copy(0, 0, 3, 2, 4), x -> x.copy(0, 0, 0, 1, 4), x -> x.copy(0, 5, 3, 0, 0), x -> x.copy(0, 0, 3, 6, 0));
        refuses(t, OUTSIDE, x -> x.copy(0, 0, 3, 0, -1), x -> x.copy(0, 0, 0, 0, -1), x -> x.copy(0, 4, 3, 4, -1), x -> x.copy(0, 0, 3, 0, MIN));
        refuses(t, OUTSIDE, x -> x.copy(0, 1, 3, 0, MAX), x -> x.copy(0, MAX, 3, 0, 1), x -> x.copy(0, 0, 3, MAX, 1), x -> x.copy(0, MIN, 3, 0, 1), x -> x.copy(0, 0, 3, MIN, MIN),
            x -> x.copy(0, MAX, 3, MAX, MAX), x -> x.copy(0, MAX, 3, 0, MIN));
    }

    private static void streetsBy() {
        says(38, "STREETS by a SHEET of a sort: from a place on, four by four (as of street()), n of them (0 .. 10): how many came (others are left out).");
        for (int sort = 0; sort < 3; sort++) {
            int its = sort;
            Town t = new Town().sheet(1, sort, 99, 3, 12, 30, 99, 5, 87, 1, 0);
            row(t.again(), to(0, 0), x -> x.streetsBy(1, its, 1, 0), x -> x.count(3));
            Town one = t.again();
            row(one, to(1, 1), x -> x.streetsBy(1, its, 1, 1), x -> x.count(3));
            same(told(one, 0), 3, 1, 2, 30, 99, 1);
            row(one, to(1), x -> x.streetsBy(1, its, 5, 1));
            same(told(one, 1), 5, 8, 7, 1, 0, 2);
            row(t, to(2, 2), x -> x.streetsBy(1, its, 1, 2), x -> x.count(3));
            same(told(t, 1), 5, 8, 7, 1, 0, 2);
        }
        // Others are left out: by kind, ends, base, more; those behind them come.
        Town t = new Town().sheet(0, 2, 6, 1, 1, 0, 0, 11, 1, 0, 0, 1, 0, 0, 0, 1, 1, 100, 0, 1, 1, 0, -1, 1, 1, 0, 0, 1, 100, 0, 0, 1, 1, -1, 0, 90, 1, 0, 5, 12, 2, 3);
        row(t, to(2, 2), x -> x.streetsBy(0, 2, 0, 10), x -> x.count(3));
        same(told(t, 0), 0, 0, 1, 1, 0, 1);
        same(told(t, 1), 5, 1, 2, 2, 3, 2);
        // Ten at most, and no more than there is room for.
        t = new Town().with(x -> x.sheet(0, 0, 40));
        for (int i = 0; i < 10; i++) {
            int at = 4 * i;
            t.with(x -> x.cell(0, at + 1, 1), x -> x.cell(0, at + 2, at + 1));
        }
        row(t, to(10, 2, 0, 12), x -> x.streetsBy(0, 0, 0, 10), x -> x.streetsBy(0, 0, 0, 10), x -> x.streetsBy(0, 0, 0, 10), x -> x.count(3));
        long[] bases = new long[12], want = {1, 5, 9, 13, 17, 21, 25, 29, 33, 37, 1, 5};
        for (int s = 0; s < 12; s++) bases[s] = told(t, s)[3];
        same(bases, want);
    }

    private static void streetsByRefused() {
        says(38, "BAD: SHEET, sort, n; -11; -13;");
        Town t = rich();
        refuses(t, BAD, x -> x.streetsBy(-1, 0, 0, 1), x -> x.streetsBy(4, 0, 0, 1), x -> x.streetsBy(MIN, 0, 0, 1), x -> x.streetsBy(MAX, 0, 0, 1));
        refuses(t, BAD, x -> x.streetsBy(0, -1, 0, 1), x -> x.streetsBy(0, 3, 0, 1), x -> x.streetsBy(0, MIN, 0, 1), x -> x.streetsBy(0, MAX, 0, 1));
        refuses(t, BAD, x -> x.streetsBy(0, 0, 0, -1), x -> x.streetsBy(0, 0, 0, 11), x -> x.streetsBy(0, 0, 0, MIN), x -> x.streetsBy(0, 0, 0, MAX));
        refuses(t, BAD, x -> x.streetsBy(3, 3, -1, 1), x -> x.streetsBy(3, 0, 0, 11), x -> x.streetsBy(1, 0, 0, 11), x -> x.streetsBy(0, 0, -1, 11));
        refuses(t, MISSING, x -> x.streetsBy(3, 0, 0, 1), x -> x.streetsBy(3, 2, 0, 0), x -> x.streetsBy(3, 1, -1, 10));
        refuses(t, UNLIKE, x -> x.streetsBy(0, 1, 0, 1), x -> x.streetsBy(0, 2, 0, 0), x -> x.streetsBy(1, 0, 0, 1), x -> x.streetsBy(1, 2, 99, 1), x -> x.streetsBy(2, 0, 0, 1),
            x -> x.streetsBy(2, 1, -1, 10));
    }

    private static void streetsByOutside() {
        says(38, "-12: what stood ahead came.");
        Town t = rich();
        // None stood ahead.
        refuses(t, OUTSIDE, x -> x.streetsBy(0, 0, -1, 1), x -> x.streetsBy(0, 0, 1, 1), x -> x.streetsBy(0, 0, 4, 1), x -> x.streetsBy(0, 0, MAX, 1), x -> x.streetsBy(0, 0, MIN, 10),
            x -> x.streetsBy(1, 1, 5, 1), x -> x.streetsBy(2, 2, -4, 3), x -> x.streetsBy(2, 2, 6, 1), x -> x.streetsBy(2, 2, MAX - 3, 10));
        row(t, to(OUTSIDE, 11), x -> x.streetsBy(0, 0, 0, 2), x -> x.count(3));
        same(told(t, 10), 0, 0, 1, 2, 0, 1024);
        row(t, to(OUTSIDE, 12), x -> x.streetsBy(1, 1, 4, 10), x -> x.count(3));
        same(told(t, 11), 2, 3, 4, 5, 6, 2048);
        // What stood ahead finds no room; outside it is all the same.
        refuses(t, OUTSIDE, x -> x.streetsBy(1, 1, 0, 3), x -> x.streetsBy(0, 0, 0, 10));
        // What stood ahead is no street.
        refuses(new Town().sheet(0, 2, 6, 1, 1, 1, 0, 1, 1), OUTSIDE, x -> x.streetsBy(0, 2, 0, 2));
        refuses(new Town().sheet(0, 0), OUTSIDE, x -> x.streetsBy(0, 0, 0, 1));
        refuses(new Town().with(x -> x.sheet(0, 0, 40)), OUTSIDE, x -> x.streetsBy(0, 0, 1, 10), x -> x.streetsBy(0, 0, 37, 1), x -> x.streetsBy(0, 0, 40, 1));
        due(new Town().with(x -> x.sheet(0, 0, 40)).ask(x -> x.streetsBy(0, 0, 0, 10)), 0);
        due(new Town().with(x -> x.sheet(0, 0, 40)).ask(x -> x.streetsBy(0, 0, 36, 1)), 0);
    }

    private static void taken() {
        says(39, "What lies at place i: 0 .. 8 CORNERS, 9 .. 20 STREETS, taken for 0 .. 5 a STREET of that KIND (also of one that is one): its number; "
            + "6 a CORNER: how many STREETS end there.");
        Town t = new Town();
        for (int s = 0; s < 12; s++) t.street(s % 6, s % 2 == 0 ? 80 : 17, 1, 1);
        for (int s = 0; s < 12; s++) {
            for (int kind = 0; kind <= 6; kind++) {
                int number = s, as = kind, its = s % 6;
                boolean isOne = kind == 0 || kind == its || kind == 3 && its == 5;
                due(t.ask(x -> x.taken(9 + number, as)), isOne && kind < 6 ? s : UNLIKE);
            }
        }
        long[] ends = {6, 6, 0, 0, 0, 0, 0, 6, 6};
        for (int c = 0; c <= 8; c++) {
            int corner = c;
            for (int kind = 0; kind < 6; kind++) {
                int as = kind;
                due(t.ask(x -> x.taken(corner, as)), UNLIKE);
            }
            due(t.ask(x -> x.taken(corner, 6)), ends[c]);
        }
        // In BEEN or not; of no streets; all twelve.
        row(t.gone(4095), to(6, 0, 11), x -> x.taken(8, 6), x -> x.taken(9, 0), x -> x.taken(20, 3));
        row(new Town(), to(0, 0), x -> x.taken(0, 6), x -> x.taken(8, 6));
        row(new Town().streets(1, 1, 1, 1, 1, 1, 1, 1, 1, 1, 1, 1), to(12, 12), x -> x.taken(0, 6), x -> x.taken(1, 6));
    }

    private static void takenRefused() {
        says(39, "BAD: kind; -12: i; -11: nothing lies there; -13.");
        Town t = rich();
        refuses(t, BAD, x -> x.taken(0, -1), x -> x.taken(0, 7), x -> x.taken(9, MIN), x -> x.taken(9, MAX), x -> x.taken(-1, 7), x -> x.taken(20, -1), x -> x.taken(21, 7));
        refuses(t, OUTSIDE, x -> x.taken(-1, 0), x -> x.taken(21, 0), x -> x.taken(-1, 6), x -> x.taken(21, 6), x -> x.taken(MIN, 3), x -> x.taken(MAX, 3));
        refuses(t, MISSING, x -> x.taken(19, 0), x -> x.taken(20, 0), x -> x.taken(19, 6), x -> x.taken(20, 5));
        refuses(t, UNLIKE, x -> x.taken(0, 0), x -> x.taken(8, 5), x -> x.taken(9, 6), x -> x.taken(9, 1), x -> x.taken(18, 6), x -> x.taken(13, 5), x -> x.taken(14, 2));
        refuses(new Town(), MISSING, x -> x.taken(9, 0), x -> x.taken(20, 6));
        // A street that is closed, or went with an image, lies there no more.
        row(t, to(9, -11, 9, 8, -11), x -> x.close(), x -> x.taken(18, 0), x -> x.back(), x -> x.taken(17, 0), x -> x.taken(18, 0));
    }
}
