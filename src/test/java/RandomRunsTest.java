import java.lang.reflect.Method;
import java.lang.reflect.Modifier;
import java.util.ArrayList;
import java.util.Arrays;
import java.util.Comparator;
import java.util.List;
import java.util.Random;

/** Runs of calls by lot, each answer held against the plain town's. Argument: how many runs. */
public final class RandomRunsTest {
    private static final int CALLS = 512;
    private static final int[] MOST_STREETS = {0, 0, 5, 6, 7, 9, 10, 11, 12, 12};
    private static final String[] COSTLY = {"lane", "house", "hours", "bears", "bars", "part", "two", "never", "laws"};

    private final Random lots;
    private final List<Method> face = new ArrayList<>();
    private final List<String> calls = new ArrayList<>();
    private HomeByAnotherWay x;
    private PlainTown plain;
    private int corners;
    private boolean wrong;

    private RandomRunsTest(long seed) {
        lots = new Random(seed);
        for (Method m : HomeByAnotherWay.class.getDeclaredMethods()) {
            if (Modifier.isPublic(m.getModifiers())) face.add(m);
        }
        face.sort(Comparator.comparing(Method::getName));
    }

    public static void main(String[] args) throws Exception {
        int runs = args.length > 0 ? Integer.parseInt(args[0]) : 300;
        int from = args.length > 1 ? Integer.parseInt(args[1]) : 1;
        int wrongs = 0;
        for (int run = from; run < from + runs && wrongs < 5; run++) {
            RandomRunsTest test = new RandomRunsTest(run);
            test.run();
            if (test.wrong) {
                wrongs++;
                System.out.println("run " + run + " of lots went wrong:");
                for (String call : test.calls) System.out.println("  " + call);
            }
        }
        System.out.println(wrongs == 0 ? runs + " runs by lot are as due" : wrongs + " runs are not as due");
        if (wrongs != 0) System.exit(1);
    }

    private void run() throws Exception {
        x = new HomeByAnotherWay();
        plain = new PlainTown();
        corners = 2 + lots.nextInt(8);
        int streets = lots.nextInt(MOST_STREETS[corners] + 1);
        for (int i = 0; i < streets; i++) make("street");
        if (lots.nextInt(3) > 0) feedText();
        while (calls.size() < CALLS && !wrong) {
            if (lots.nextInt(60) == 0) feedText();
            else if (lots.nextInt(40) == 0) tellWalk();
            else one();
        }
    }

    private void one() throws Exception {
        Method m = face.get(lots.nextInt(face.size()));
        String name = m.getName();
        if (Arrays.asList(COSTLY).contains(name) && lots.nextInt(4) > 0) return;
        boolean grows = name.equals("street") || name.equals("streetsBy");
        if (grows && plain.ways.size() >= MOST_STREETS[corners] && corners < 8) {
            make("close");
            return;
        }
        make(name);
    }

    private void make(String name) throws Exception {
        if (wrong || calls.size() >= CALLS) return;
        for (Method m : face) {
            if (m.getName().equals(name)) call(m, arguments(name, m.getParameterCount()));
        }
    }

    private void call(Method m, Object... args) throws Exception {
        Method same = PlainTown.class.getDeclaredMethod(m.getName(), m.getParameterTypes());
        long got;
        try {
            got = ((Number) m.invoke(x, args)).longValue();
        } catch (java.lang.reflect.InvocationTargetException e) {
            throw new IllegalStateException(calls + "\n" + m.getName() + Arrays.toString(args), e.getCause());
        }
        long want = ((Number) same.invoke(plain, args)).longValue();
        String row = m.getName() + Arrays.toString(args) + " answered " + got;
        if (got != want) {
            wrong = true;
            row += ", due is " + want;
        }
        calls.add(row);
    }

    /** A sheet tells a walk by lot, home passed or not, at times with one number put in or changed. */
    private void tellWalk() throws Exception {
        PlainTown.Walk walk = plain.new Walk();
        int most = lots.nextInt(14);
        for (int tries = 0; tries < 60 && walk.streets.size() < most; tries++) {
            int s = someStreet();
            if (walk.may(s, false)) walk.go(s, false);
        }
        List<Integer> told = new ArrayList<>(walk.streets);
        if (lots.nextInt(2) == 0) told.add(lots.nextInt(told.size() + 1), lots.nextInt(14) - 1);
        else if (!told.isEmpty() && lots.nextInt(3) == 0) told.set(lots.nextInt(told.size()), someStreet());
        int sheet = lots.nextInt(4);
        call("sheet", sheet, lots.nextInt(3), told.size());
        for (int i = 0; i < told.size(); i++) call("cell", sheet, i, told.get(i));
        if (lots.nextInt(3) == 0) make("set");
        call("judge", sheet);
        call("walk", sheet, 0);
        call("walk", sheet, 1);
    }

    private void call(String name, Object... args) throws Exception {
        for (Method m : face) {
            if (m.getName().equals(name) && !wrong && calls.size() < CALLS) call(m, args);
        }
    }

    private void feedText() throws Exception {
        byte[] text = (lots.nextInt(3) == 0 ? spoilt(words()) : words()).getBytes("ISO-8859-1");
        Method feed = HomeByAnotherWay.class.getMethod("feed", int.class, int.class, int.class, int.class, int.class, int.class);
        for (int i = 0; i < text.length && calls.size() < CALLS && !wrong; i += 5) {
            Object[] args = {Math.min(5, text.length - i), 0, 0, 0, 0, 0};
            for (int k = 0; k < 5 && i + k < text.length; k++) args[k + 1] = text[i + k] & 255;
            call(feed, args);
        }
        make("text");
        if (lots.nextBoolean()) make("force");
    }

    private String words() {
        return "walk " + (lots.nextInt(4) == 0 ? "base" : sums(0, 3)) + " ;" + blank() + "carry " + sums(0, 3)
            + (lots.nextInt(6) == 0 ? ";" : " ;\n") + "may " + (lots.nextInt(4) == 0 ? "1" : sums(0, 4)) + " ;" + blank();
    }

    private String blank() {
        return new String[] {"", " ", "\n", "  "}[lots.nextInt(4)];
    }

    private String sums(int depth, int size) {
        String[] names = {"base", "more", "hour", "from", "to", "street", "street", "hour"};
        String[] marks = {"+", "-", "*", "<", "=", "or", "and"};
        if (size <= 0 || lots.nextInt(4) == 0) {
            int leaf = lots.nextInt(10);
            return leaf < 6 ? names[lots.nextInt(8)] : String.valueOf(lots.nextInt(leaf < 9 ? 13 : 10000));
        }
        String inner = sums(depth + 1, size - 1);
        switch (lots.nextInt(7)) {
            case 0: return "(" + blank() + inner + blank() + ")";
            case 1: return "- " + inner;
            case 2: return depth == 0 ? "not " + inner : "( not " + inner + " )";
            default: return inner + " " + marks[lots.nextInt(7)] + " " + sums(depth + 1, size - 2);
        }
    }

    private String spoilt(String text) {
        StringBuilder spoilt = new StringBuilder(text);
        String[] odd = {"(", ")", ";", "+", "-", "*", "<", "=", " not ", " or ", " and ", "12345", "((((((", "------", "not not not not not not ",
            "walk", "x", "A", "\t", "\u00ff", " ", "9999", "- ( not ( - ( 1 ", "0000", "1", " base "};
        for (int i = 1 + lots.nextInt(2); i > 0; i--) {
            int at = lots.nextInt(spoilt.length());
            int what = lots.nextInt(3);
            if (what == 0) spoilt.insert(at, odd[lots.nextInt(odd.length)]);
            else if (what == 1) spoilt.deleteCharAt(at);
            else spoilt.setLength(at + 1);
        }
        return spoilt.toString();
    }

    private Object[] arguments(String name, int many) {
        Object[] args = new Object[many];
        for (int i = 0; i < many; i++) args[i] = lots.nextInt(45) == 0 ? odd() : argument(name, i);
        return args;
    }

    private int odd() {
        int[] odd = {-1, -2, Integer.MIN_VALUE, Integer.MAX_VALUE, 9, 12, 13, 24, 40, 41, 100, 512, 256, 99999, 100000, 50, 51, -5, 2, 7, 1 << 20};
        return odd[lots.nextInt(odd.length)];
    }

    private int corner() {
        return lots.nextInt(12) == 0 ? lots.nextInt(9) : lots.nextInt(corners);
    }

    private int cornerSet() {
        int set = 0;
        for (int i = lots.nextInt(4); i >= 0; i--) set |= 1 << corner();
        return lots.nextInt(15) == 0 ? lots.nextInt(512) : set;
    }

    private int someStreet() {
        return lots.nextInt(Math.max(1, plain.ways.size()));
    }

    private int argument(String name, int i) {
        switch (name) {
            case "set": return i == 0 ? lots.nextInt(3) : lots.nextInt(3) == 0 ? lots.nextInt(24) : lots.nextInt(2) == 0 ? corner() : lots.nextInt(2);
            case "count": return lots.nextInt(8);
            case "feed": return i == 0 ? 1 + lots.nextInt(5) : "walk base; 1+".charAt(lots.nextInt(13));
            case "force": return lots.nextInt(plain.texts.size());
            case "street": return streetArgument(i);
            case "gone": return lots.nextInt(2) == 0 ? 0 : lots.nextInt(1 << plain.ways.size()) & lots.nextInt(1 << plain.ways.size());
            case "told": return i == 0 ? someStreet() : lots.nextInt(6);
            case "asks": return i == 0 ? someStreet() : i == 1 ? corner() : lots.nextInt(4);
            case "calls": return i == 0 ? cornerSet() : i == 1 ? corner() - lots.nextInt(2) : lots.nextInt(4);
            case "two": return i < 2 ? cornerSet() : lots.nextInt(2);
            case "never": return lots.nextInt(3);
            case "house": return i == 0 ? cornerSet() : lots.nextInt(2);
            case "lane": return i == 0 ? 1 + lots.nextInt(99) : lots.nextInt(2);
            case "round": return lots.nextInt(4);
            case "ring": case "heavy": return i == 0 ? corner() : lots.nextInt(4);
            case "bond": case "hours": return i == 0 ? corner() : lots.nextInt(2);
            case "drawn": return i == 0 ? lots.nextInt(100000) : lots.nextInt(3);
            case "odds": return i == 0 ? lots.nextInt(100000) : i == 1 ? 1 + lots.nextInt(50) : lots.nextInt(2);
            case "taken": return i == 0 ? lots.nextInt(21) : lots.nextInt(7);
            case "gap": case "bars": case "part": case "laws": return corner();
            default: return sheetArgument(name, i);
        }
    }

    private int streetArgument(int i) {
        if (i == 0) return lots.nextInt(6);
        if (i == 2) return 1 + lots.nextInt(lots.nextInt(3) == 0 ? 99 : 9);
        if (i == 3) return lots.nextInt(lots.nextInt(3) == 0 ? 100 : 3);
        int one = lots.nextInt(corners), other = (one + 1 + lots.nextInt(corners - 1)) % corners;
        return 10 * one + other;
    }

    private int sheetArgument(String name, int i) {
        if (i == 0 && !name.equals("show")) return lots.nextInt(4);
        switch (name) {
            case "show": return i == 0 ? corner() : lots.nextInt(4);
            case "walk": return lots.nextInt(2);
            case "sheet": return i == 1 ? lots.nextInt(4) - (lots.nextInt(6) == 0 ? 1 : 0) : lots.nextInt(lots.nextInt(3) == 0 ? 42 : 6);
            case "cell": return i == 1 ? lots.nextInt(8) : lots.nextInt(4) == 0 ? lots.nextInt() : lots.nextInt(3) == 0 ? streetArgument(1) : lots.nextInt(12);
            case "copy": return i == 2 ? lots.nextInt(4) : lots.nextInt(6);
            case "streetsBy": return i == 1 ? lots.nextInt(3) : i == 2 ? lots.nextInt(4) : lots.nextInt(4);
            default: return 0;
        }
    }
}
