/** Asks two towns all that can be asked, one call here, the same there; tells the first answers that are unlike. */
final class Probe {
    private static final int CORNERS = 9, STREETS = 12, SHEETS = 4;

    private final Town one, other;
    String unlike = "";

    Probe(Town one, Town other) {
        this.one = one;
        this.other = other;
    }

    private long ask(String what, Town.Call call) {
        long its = one.ask(call), others = other.ask(call);
        if (its != others && unlike.isEmpty()) unlike = what + " answers " + its + ", else " + others;
        return others;
    }

    /** All but what lies on the sheets. */
    void all() {
        counts("");
        for (int s = 0; s < STREETS; s++) street(s);
        rings();
        for (int c = 0; c < CORNERS; c++) {
            int corner = c;
            ask("laws " + c, x -> x.laws(corner));
        }
        for (int s = 0; s < SHEETS; s++) {
            int sheet = s;
            ask("judge " + s, x -> x.judge(sheet));
            ask("walk " + s, x -> x.walk(sheet, 0));
            ask("walk on " + s, x -> x.walk(sheet, 1));
            shape(s);
        }
        ask("drawn", x -> x.drawn(7, 0));
        rest();
    }

    /** The image, ahead of all else that could change it. */
    void image() {
        ask("back", x -> x.back());
        counts(" behind back");
        for (int s = 0; s < STREETS; s++) street(s);
    }

    /** The tape's bytes, the texts, the image again. */
    private void rest() {
        ask("text", x -> x.text());
        for (int t = 0; t < 6; t++) {
            int text = t;
            if (ask("force " + t, x -> x.force(text)) < 0) continue;
            ask("ring by text " + t, x -> x.ring(1, 0));
        }
        ask("back", x -> x.back());
        counts(" behind back");
        rings();
    }

    private void counts(String when) {
        for (int i = 0; i < 8; i++) {
            int what = i;
            ask("count " + i + when, x -> x.count(what));
        }
    }

    private void street(int s) {
        long from = 0;
        for (int i = 0; i < 6; i++) {
            int what = i;
            long answer = ask("told " + s + " " + i, x -> x.told(s, what));
            if (answer < 0) return;
            if (i == 1) from = answer;
        }
        int corner = (int) from;
        ask("asks " + s, x -> x.asks(s, corner, 2));
        ask("asks with a load " + s, x -> x.asks(s, corner, 3));
    }

    private void rings() {
        for (int c = 0; c < CORNERS; c++) {
            int corner = c;
            ask("ring " + c, x -> x.ring(corner, 1));
            ask("heavy " + c, x -> x.heavy(corner, 0));
        }
        for (int i = 0; i < 3; i++) {
            int what = i;
            ask("never " + i, x -> x.never(what));
        }
    }

    /** Whether a sheet is missing, its sort, how many numbers it has. */
    private void shape(int s) {
        for (int sort = 0; sort < 3; sort++) {
            int its = sort;
            ask("sort of sheet " + s, x -> x.streetsBy(s, its, 0, 0));
        }
        int low = 0, high = 40;
        for (int i = 0; i < 6; i++) {
            int n = (low + high + 1) / 2;
            if (ask("size of sheet " + s, x -> x.copy(s, 0, s, 0, n)) >= 0) low = n;
            else high = Math.max(low, n - 1);
        }
    }

    /** The numbers on the sheets, as far as they tell streets. */
    void sheets() {
        for (int s = 0; s < SHEETS; s++) shape(s);
        for (int s = 0; s < SHEETS; s++) {
            for (int sort = 0; sort < 3; sort++) streetsOf(s, sort);
        }
    }

    private void streetsOf(int s, int sort) {
        for (int i = 0; i <= STREETS; i++) {
            if (ask("close", x -> x.close()) <= 0) break;
        }
        ask("streets by sheet " + s, x -> x.streetsBy(s, sort, 0, 10));
        for (int k = 0; k < 3; k++) {
            int street = k;
            for (int i = 0; i < 5; i++) {
                int what = i;
                if (ask("told by sheet " + s, x -> x.told(street, what)) < 0) break;
            }
        }
    }
}
