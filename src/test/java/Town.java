import java.util.ArrayList;
import java.util.List;

/** A town made call by call, so that another one can be made likewise; 512 calls are all it has. */
final class Town {
    interface Call {
        long on(HomeByAnotherWay x);
    }

    private static final int MOST_CALLS = 512;

    private final HomeByAnotherWay x = new HomeByAnotherWay();
    private final List<Call> made = new ArrayList<>();

    long ask(Call call) {
        if (made.size() == MOST_CALLS) throw new IllegalStateException("what later calls answer is free");
        made.add(call);
        return call.on(x);
    }

    /** Calls whose answers are no matter here. */
    Town with(Call... calls) {
        for (Call call : calls) ask(call);
        return this;
    }

    Town street(int kind, int ends, int base, int more) {
        return with(x -> x.street(kind, ends, base, more));
    }

    /** Streets of kind 0, of 1 minute, with a load 2. */
    Town streets(int... ends) {
        for (int e : ends) street(0, e, 1, 1);
        return this;
    }

    Town set(int what, int v) {
        return with(x -> x.set(what, v));
    }

    Town gone(int set) {
        return with(x -> x.gone(set));
    }

    /** Bytes come to the tape, five by five; each of a text's signs is one. */
    Town feed(String text) {
        for (int i = 0; i < text.length(); i += 5) {
            int[] five = new int[5];
            int n = Math.min(5, text.length() - i);
            for (int k = 0; k < n; k++) five[k] = text.charAt(i + k);
            ask(x -> x.feed(n, five[0], five[1], five[2], five[3], five[4]));
        }
        return this;
    }

    /** What text() answers to such a tape. */
    long text(String text) {
        return feed(text).ask(x -> x.text());
    }

    /** A text that becomes the law. */
    Town law(String text) {
        int t = (int) text(text);
        return with(x -> x.force(t));
    }

    Town sheet(int s, int sort, int... numbers) {
        ask(x -> x.sheet(s, sort, numbers.length));
        for (int i = 0; i < numbers.length; i++) {
            int at = i;
            ask(x -> x.cell(s, at, numbers[at]));
        }
        return this;
    }

    /** Another town, made by the same calls. */
    Town again() {
        return new Town().with(made.toArray(new Call[0]));
    }
}
