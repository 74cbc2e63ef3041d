/** For each promise of the document: ordinary calls, its edges, and each refusal in its order. */
public final class PromisesTest {
    private static final int NONE = HomeByAnotherWay.NONE, BAD = HomeByAnotherWay.BAD;
    private static final int STATE = HomeByAnotherWay.STATE, FULL = HomeByAnotherWay.FULL;
    private static final long NO = HomeByAnotherWay.NO;
    private static final int MIN = Integer.MIN_VALUE, MAX = Integer.MAX_VALUE;

    private static int wrong = 0, rows = 0;
    private static String promise = "";

    private static void due(long got, long want) {
        rows++;
        if (got == want) return;
        wrong++;
        int line = Thread.currentThread().getStackTrace()[2].getLineNumber();
        System.out.println(promise + ", line " + line + ": answered " + got + ", due is " + want);
    }

    private static void dueAll(long want, long... got) {
        for (int i = 0; i < got.length; i++) {
            rows++;
            if (got[i] == want) continue;
            wrong++;
            int line = Thread.currentThread().getStackTrace()[2].getLineNumber();
            System.out.println(promise + ", line " + line + ", number " + i + ": answered " + got[i] + ", due is " + want);
        }
    }

    private static void dueRow(long[] got, long... want) {
        rows++;
        if (java.util.Arrays.equals(got, want)) return;
        wrong++;
        int line = Thread.currentThread().getStackTrace()[2].getLineNumber();
        System.out.println(promise + ", line " + line + ": answered " + java.util.Arrays.toString(got));
    }

    public static void main(String[] args) {
        newObject();
        set();
        count();
        feed();
        text();
        faults();
        values();
        force();
        street();
        close();
        told();
        gone();
        asks();
        kinds();
        ring();
        ringOnce();
        heavy();
        gap();
        calls();
        two();
        round();
        never();
        bars();
        bears();
        part();
        house();
        lane();
        newly();
        bond();
        hours();
        laws();
        judge();
        walk();
        show();
        drawn();
        odds();
        image();
        back();
        sheet();
        cell();
        copy();
        streetsBy();
        taken();
        System.out.println(wrong == 0 ? rows + " rows are as due" : wrong + " of " + rows + " rows are not as due");
        if (wrong != 0) System.exit(1);
    }

    // ---- what the promises share

    /** Streets of kind 0, 1 minute each (2 with a load), between the two corners of each number. */
    private static HomeByAnotherWay town(int... ends) {
        HomeByAnotherWay x = new HomeByAnotherWay();
        for (int e : ends) x.street(0, e, 1, 1);
        return x;
    }

    private static int write(HomeByAnotherWay x, String text) {
        for (int i = 0; i < text.length(); i += 5) {
            int[] five = new int[5];
            int n = Math.min(5, text.length() - i);
            for (int k = 0; k < n; k++) five[k] = text.charAt(i + k);
            x.feed(n, five[0], five[1], five[2], five[3], five[4]);
        }
        return x.text();
    }

    private static int read(String text) {
        return write(new HomeByAnotherWay(), text);
    }

    private static HomeByAnotherWay ruled(HomeByAnotherWay x, String text) {
        x.force(write(x, text));
        return x;
    }

    private static void fill(HomeByAnotherWay x, int s, int... numbers) {
        x.sheet(s, 2, numbers.length);
        for (int i = 0; i < numbers.length; i++) x.cell(s, i, numbers[i]);
    }

    private static long[] ring(HomeByAnotherWay x, int c) {
        return new long[] {x.ring(c, 0), x.ring(c, 1), x.ring(c, 2), x.ring(c, 3)};
    }

    private static long[] heavy(HomeByAnotherWay x, int c) {
        return new long[] {x.heavy(c, 0), x.heavy(c, 1), x.heavy(c, 2), x.heavy(c, 3)};
    }

    private static long[] counts(HomeByAnotherWay x) {
        long[] all = new long[8];
        for (int i = 0; i < 8; i++) all[i] = x.count(i);
        return all;
    }

    // ---- the town, the law

    private static void newObject() {
        promise = "1 new";
        HomeByAnotherWay x = new HomeByAnotherWay();
        dueRow(counts(x), 0, 8, 0, 0, 0, 1, 0, 0);
        dueAll(-11, x.cell(0, 0, 0), x.cell(1, 0, 0), x.cell(2, 0, 0), x.cell(3, 0, 0));
        due(x.back(), STATE);
        dueRow(counts(new HomeByAnotherWay()), 0, 8, 0, 0, 0, 1, 0, 0);
    }

    private static void set() {
        promise = "2 set";
        HomeByAnotherWay x = town(1);
        due(x.set(0, 8), 0);
        due(x.set(0, 2), 8);
        due(x.set(1, 0), 8);
        due(x.set(1, 23), 0);
        due(x.set(2, 1), 0);
        due(x.set(2, 1), 1);
        dueRow(counts(x), 2, 23, 1, 1, 0, 1, 0, 0);
        dueAll(NONE, x.set(-1, 0), x.set(3, 0), x.set(3, -1), x.set(MIN, 99), x.set(MAX, 0));
        dueAll(BAD, x.set(0, -1), x.set(0, 9), x.set(1, -1), x.set(1, 24), x.set(2, 2), x.set(2, -1), x.set(0, MAX), x.set(1, MIN));
        dueRow(counts(x), 2, 23, 1, 1, 0, 1, 0, 0);
    }

    private static void count() {
        promise = "3 count";
        HomeByAnotherWay x = town(1, 12, 20);
        x.gone(5);
        x.feed(3, 97, 98, 99, 0, 0);
        dueRow(counts(x), 0, 8, 0, 3, 5, 1, 0, 3);
        x.text();
        x.force(write(x, "walk 1;carry 1;may 1;"));
        dueRow(counts(x), 0, 8, 0, 3, 5, 2, 1, 0);
        dueAll(BAD, x.count(-1), x.count(8), x.count(MIN), x.count(MAX));
    }

    private static void feed() {
        promise = "4 feed";
        HomeByAnotherWay x = new HomeByAnotherWay();
        dueAll(BAD, x.feed(0, 1, 1, 1, 1, 1), x.feed(6, 1, 1, 1, 1, 1), x.feed(MIN, 1, 1, 1, 1, 1), x.feed(-1, 1, 1, 1, 1, 1));
        dueAll(BAD, x.feed(1, 256, 0, 0, 0, 0), x.feed(1, 0, -1, 0, 0, 0), x.feed(1, 0, 0, 256, 0, 0),
            x.feed(1, 0, 0, 0, -1, 0), x.feed(1, 0, 0, 0, 0, 256), x.feed(5, 0, 0, 0, 0, MIN));
        due(x.count(7), 0);
        due(x.feed(1, 255, 0, 0, 0, 0), 1);
        due(x.feed(2, 0, 0, 255, 255, 255), 3);
        due(x.feed(3, 1, 2, 3, 4, 5), 6);
        due(x.feed(4, 1, 2, 3, 4, 5), 10);
        for (int i = 1; i < 30; i++) due(x.feed(5, 32, 32, 32, 32, 32), 10 + 5 * i);
        due(x.feed(3, 32, 32, 32, 0, 0), 158);
        dueAll(FULL, x.feed(3, 32, 32, 32, 0, 0), x.feed(5, 32, 32, 32, 0, 0));
        due(x.feed(3, 32, 32, 32, 0, 256), BAD);
        due(x.count(7), 158);
        due(x.feed(2, 32, 32, 0, 0, 0), 160);
        due(x.feed(1, 32, 0, 0, 0, 0), FULL);
        due(x.feed(0, 32, 0, 0, 0, 0), BAD);
        due(x.text(), -100);
        due(x.feed(1, 32, 0, 0, 0, 0), 1);
        // Five bytes come in their order.
        x = new HomeByAnotherWay();
        x.feed(5, 'w', 'a', 'l', 'k', ' ');
        x.feed(4, '7', ';', 'c', 'a', 'z');
        x.feed(3, 'r', 'r', 'y', 'z', 'z');
        x.feed(2, ' ', '9', 'z', 'z', 'z');
        x.feed(1, ';', 'z', 'z', 'z', 'z');
        x.feed(5, 'm', 'a', 'y', ' ', '1');
        x.feed(1, ';', 'z', 'z', 'z', 'z');
        due(x.text(), 1);
        x.force(1);
        x.street(0, 1, 1, 0);
        due(x.asks(0, 0, 2), 7);
        due(x.asks(0, 0, 3), 9);
    }

    private static void text() {
        promise = "5 text";
        HomeByAnotherWay x = new HomeByAnotherWay();
        due(x.text(), -100);
        due(write(x, "walk base ; carry base + more ; may 1 ;"), 1);
        due(x.count(7), 0);
        due(x.count(6), 0);
        due(write(x, "walk base"), -109);
        due(x.count(7), 0);
        due(write(x, "\n walk(base);carry-base*2;may not 1 or 1=1 and 2<3;\n\n "), 2);
        due(write(x, "walk 0000;carry 9999;may 1;"), 3);
        StringBuilder longest = new StringBuilder("walk 1;carry 1;may 1");
        while (longest.length() < 159) longest.append(longest.length() % 2 == 0 ? '+' : '1');
        due(write(x, longest.append(';').toString()), -259);
        longest.setCharAt(158, ' ');
        due(write(x, longest.toString()), 4);
        due(write(x, "walk 1;carry 1;may 1;"), 5);
        due(x.count(5), 6);
        due(write(x, "walk 1;carry 1;may 1;"), FULL);
        due(x.count(7), 21);
        due(x.text(), FULL);
        x.feed(1, 'x', 0, 0, 0, 0);
        due(x.text(), FULL);
        due(x.count(7), 22);
        due(x.count(5), 6);
    }

    private static void faults() {
        promise = "5 text, faults";
        String good = "walk 1;carry 1;may ";
        int at = -100 - good.length();
        due(read("   "), -103);
        due(read("carry 1;"), -100);
        due(read("walk 1;may 1;"), -107);
        due(read("walk ;"), -105);
        due(read("walk 1 carry"), -107);
        due(read("walkbase;"), -100);
        due(read("walk bas;"), -105);
        due(read("walk basee;"), -105);
        due(read("walkz 1;"), -100);
        due(read("walk basez;"), -105);
        due(read("walk 1a;"), -106);
        due(read("walk 12345;"), -105);
        due(read("walk 00001;"), -105);
        due(read("walk Base;"), -105);
        due(read("walk 1\t;"), -106);
        due(read("walk 1 \u00ff;"), -107);
        due(read("walk 1 > 2;"), -107);
        due(read("walk walk;"), -105);
        due(read(good + "1; 1"), at - 3);
        due(read(good + "1;;"), at - 2);
        due(read(good + "1; \n"), 1);
        due(read(good + "1 2;"), at - 2);
        due(read(good + "1 base;"), at - 2);
        due(read(good + "(1;"), at - 2);
        due(read(good + "1);"), at - 1);
        due(read(good + "();"), at - 1);
        due(read(good + "1 < 2 < 3;"), at - 6);
        due(read(good + "1 = 2 < 3;"), at - 6);
        due(read(good + "1 + not 2;"), at - 4);
        due(read(good + "1 < not 2;"), at - 4);
        due(read(good + "- not 2;"), at - 2);
        due(read(good + "1 + + 2;"), at - 4);
        due(read(good + "* 2;"), at);
        due(read(good + "1 or ;"), at - 5);
        due(read(good + "1 and or 1;"), at - 6);
        due(read(good + "1 not 1;"), at - 2);
        due(read(good + "1 +"), at - 3);
        due(read(good + "1 or "), at - 5);
        for (char odd = 0; odd < 256; odd++) {
            boolean stands = odd == ';' || odd == 32 || odd == 10 || odd >= '0' && odd <= '9' || "+-*<=".indexOf(odd) >= 0;
            due(read(good + "1" + odd), stands ? odd == ';' ? 1 : at - 2 : at - 1);
        }
        // No byte that begins no token is one, wherever a token of any sort is due.
        for (char odd = 0; odd < 32; odd++) {
            if (odd == 10) continue;
            due(read(good + odd), at);
            due(read(good + odd + ";"), at);
            due(read(good + "1;" + odd), at - 2);
            due(read(odd + good), -100);
        }
        // Five may be open, of any of the three; what has ended is open no more.
        due(read(good + "(((((1)))));"), 1);
        due(read(good + "((((((1))))));"), at - 5);
        due(read(good + "-----1;"), 1);
        due(read(good + "------1;"), at - 5);
        due(read(good + "not not not not not 1;"), 1);
        due(read(good + "not not not not not not 1;"), at - 20);
        due(read(good + "not(-(-((1))));"), at - 7);
        due(read(good + "not(-(-1-1-1))<-1 or not -1-(-(-1));"), 1);
        due(read(good + "not(-(-(-1)));"), at - 7);
        due(read(good + "((((((;"), at - 5);
        due(read(good + "(((((1-1)))));"), 1);
        due(read(good + "-1--1--1--1--1--1--1;"), 1);
        due(read(good + "not 1 or not 1 and not 1 or not 1 or not 1 or not 1;"), 1);
        due(read(good + "(((((not 1)))));"), at - 5);
        due(read(good + "(((((-1)))));"), at - 5);
        due(read(good + "not 1<(((((1)))));"), at - 10);
        due(read(good + "not 1 or (((((1)))));"), 1);
    }

    /** What a law's walk says of street 3, from corner 4 to 7, base 9, more 20, at hour 8; from 1 to 99. */
    private static int says(String walk) {
        HomeByAnotherWay x = town(1, 12, 23);
        x.street(0, 47, 9, 20);
        ruled(x, "walk " + walk + ";carry 0;may 1;");
        return x.count(6) == 1 ? x.asks(3, 4, 2) : MIN;
    }

    private static void values() {
        promise = "5 text, values";
        due(says("base"), 9);
        due(says("more"), 20);
        due(says("hour"), 8);
        due(says("from"), 4);
        due(says("to"), 7);
        due(says("street"), 3);
        due(says("10-3-2"), 5);
        due(says("10-3+2"), 9);
        due(says("2+3*4"), 14);
        due(says("(2+3)*4"), 20);
        due(says("2*3+4"), 10);
        due(says("-3+10"), 7);
        due(says("10*-3+40"), 10);
        due(says("50+(1<2)"), 51);
        due(says("50+(2<2)"), 50);
        due(says("50+(2=2)"), 51);
        due(says("50+(1=2)"), 50);
        due(says("50+(-1<0)"), 51);
        due(says("50+(5 or 0)"), 51);
        due(says("50+(0 or 0)"), 50);
        due(says("50+(5 and 7)"), 51);
        due(says("50+(5 and 0)"), 50);
        due(says("50+(0 and 5)"), 50);
        due(says("50+(not 5)"), 50);
        due(says("50+(not 0)"), 51);
        due(says("50+(not not 7)"), 51);
        due(says("50+(not 0 < 1)"), 50);
        due(says("50+(1 or 1 and 0)"), 51);
        due(says("50+(not 1 or 1)"), 51);
        due(says("50+(1+1=2 and 2<3*1)"), 51);
        due(says("0"), 1);
        due(says("-5"), 1);
        due(says("99"), 99);
        due(says("100"), 99);
        due(says("9999*9999*9999"), 1);
        due(says("9999*9999*21"), 99);
        due(says("9999*9999*22"), 1);
        due(says("(9999*9999*43<0)*7+3"), 3);
        due(says("(9999*9999*22<0)*7+3"), 10);
    }

    private static void force() {
        promise = "6 force";
        HomeByAnotherWay x = town(1);
        due(x.force(1), BAD);
        write(x, "walk 7;carry 8;may 0;");
        due(x.asks(0, 0, 2), 1);
        due(x.force(1), 0);
        due(x.asks(0, 0, 2), 7);
        due(x.asks(0, 0, 3), 8);
        due(x.asks(0, 0, 0), 0);
        due(x.force(1), 1);
        dueAll(BAD, x.force(-1), x.force(2), x.force(MAX), x.force(MIN));
        due(x.count(6), 1);
        due(x.force(0), 1);
    }

    private static void street() {
        promise = "7 street";
        HomeByAnotherWay x = new HomeByAnotherWay();
        dueAll(BAD, x.street(-1, 1, 1, 0), x.street(6, 1, 1, 0), x.street(0, -1, 1, 0), x.street(0, 0, 1, 0), x.street(0, 88, 1, 0),
            x.street(0, 89, 1, 0), x.street(0, 9, 1, 0), x.street(0, 90, 1, 0), x.street(0, 98, 1, 0), x.street(0, 101, 1, 0),
            x.street(0, 1, 0, 0), x.street(0, 1, 100, 0), x.street(0, 1, 1, -1), x.street(0, 1, 1, 100), x.street(0, MIN, 1, 0), x.street(0, MAX, 1, 0),
            x.street(0, -10, 1, 0));
        due(x.count(3), 0);
        for (int i = 0; i < 12; i++) due(x.street(i % 6, i % 2 == 0 ? 87 : 8, 99, 99), i);
        due(x.street(0, 1, 1, 0), FULL);
        due(x.street(0, 1, 0, 0), BAD);
        due(x.count(3), 12);
        due(x.told(11, 1), 0);
        due(x.told(11, 2), 8);
        due(x.told(10, 1), 8);
        due(x.told(10, 2), 7);
    }

    private static void close() {
        promise = "8 close";
        HomeByAnotherWay x = new HomeByAnotherWay();
        due(x.close(), STATE);
        x = town(1, 12, 20);
        x.gone(6);
        due(x.close(), 2);
        due(x.count(4), 2);
        due(x.told(2, 0), -5);
        due(x.street(4, 34, 5, 6), 2);
        due(x.count(4), 2);
        due(x.told(2, 3), 5);
        due(x.image(), 3);
        x.street(0, 1, 1, 1);
        due(x.close(), 3);
        due(x.back(), 3);
        due(x.close(), 2);
        due(x.back(), STATE);
        x.street(0, 1, 1, 1);
        due(x.back(), STATE);
        due(x.close(), 2);
        due(x.close(), 1);
        due(x.close(), 0);
        due(x.close(), STATE);
        due(x.count(4), 0);
    }

    private static void told() {
        promise = "9 told";
        HomeByAnotherWay x = new HomeByAnotherWay();
        due(x.told(0, 0), -5);
        x.street(2, 73, 98, 97);
        dueRow(new long[] {x.told(0, 0), x.told(0, 1), x.told(0, 2), x.told(0, 3), x.told(0, 4), x.told(0, 5)}, 2, 7, 3, 98, 97, 1);
        x.street(3, 1, 1, 4);
        x.street(5, 1, 1, 4);
        x.street(3, 1, 1, 5);
        x.street(5, 1, 1, 5);
        x.street(0, 1, 1, 4);
        x.street(4, 1, 1, 5);
        x.street(3, 1, 1, 6);
        long[] spent = new long[8];
        for (int s = 0; s < 8; s++) spent[s] = x.told(s, 5);
        dueRow(spent, 1, 6, 6, 24, 24, 32, 64, 128);
        x.close();
        x.close();
        x.close();
        x.close();
        due(x.told(1, 5), 6);
        due(x.told(3, 5), 8);
        for (int i = 0; i < 8; i++) x.street(3, 1, 1, 4);
        due(x.told(11, 5), 4095 ^ 1 ^ 8);
        x = new HomeByAnotherWay();
        for (int s = 0; s < 8; s++) x.street(0, 1, 1, 4);
        dueAll(-5, x.told(-1, 0), x.told(8, 0), x.told(8, 9), x.told(MAX, -1), x.told(MIN, 0), x.told(12, 0));
        dueAll(-7, x.told(0, -1), x.told(0, 6), x.told(7, MAX), x.told(7, MIN));
    }

    private static void gone() {
        promise = "10 gone";
        HomeByAnotherWay x = new HomeByAnotherWay();
        due(x.gone(0), 0);
        dueAll(BAD, x.gone(1), x.gone(-1));
        x = town(1, 12, 20);
        due(x.ring(1, 0), 3);
        due(x.gone(7), 0);
        due(x.gone(4), 7);
        due(x.ring(1, 0), -1);
        dueAll(BAD, x.gone(8), x.gone(-1), x.gone(MIN), x.gone(MAX), x.gone(12));
        due(x.gone(0), 4);
        due(x.ring(1, 0), 3);
        // What is in BEEN spends nothing.
        x = new HomeByAnotherWay();
        x.street(3, 1, 1, 0);
        x.street(3, 1, 1, 0);
        x.street(0, 1, 1, 0);
        x.gone(1);
        due(x.ring(1, 1), 6);
    }

    private static long[] asked(HomeByAnotherWay x, int s, int from) {
        return new long[] {x.asks(s, from, 0), x.asks(s, from, 1), x.asks(s, from, 2), x.asks(s, from, 3)};
    }

    private static void asks() {
        promise = "11 asks";
        HomeByAnotherWay x = new HomeByAnotherWay();
        due(x.asks(0, 0, 0), -5);
        x.street(0, 37, 90, 20);
        dueRow(asked(x, 0, 3), 1, 1, 90, 99);
        dueRow(asked(x, 0, 7), 1, 1, 90, 99);
        x.gone(1);
        dueRow(asked(x, 0, 3), 1, 1, 90, 99);
        dueAll(-5, x.asks(-1, 3, 0), x.asks(1, 3, 0), x.asks(1, 3, 9), x.asks(0, 0, 0), x.asks(0, -1, 0), x.asks(0, 9, 9), x.asks(MAX, 3, 0), x.asks(0, MIN, 0));
        dueAll(-7, x.asks(0, 3, -1), x.asks(0, 3, 4), x.asks(0, 7, MAX));
        ruled(x, "walk from*10+to;carry to*10+from;may from<to;");
        dueRow(asked(x, 0, 3), 1, 1, 37, 73);
        dueRow(asked(x, 0, 7), 0, 0, 73, 37);
    }

    private static void kinds() {
        promise = "11 asks, by kinds";
        HomeByAnotherWay x = new HomeByAnotherWay();
        for (int kind = 0; kind < 6; kind++) x.street(kind, 12, 30, 25);
        dueRow(asked(x, 0, 1), 1, 1, 30, 55);
        dueRow(asked(x, 1, 1), 1, 1, 30, 55);
        dueRow(asked(x, 1, 2), 0, 0, 30, 55);
        dueRow(asked(x, 2, 1), 1, 0, 30, 55);
        dueRow(asked(x, 2, 2), 1, 0, 60, 99);
        dueRow(asked(x, 3, 2), 1, 1, 30, 55);
        dueRow(asked(x, 4, 1), 1, 1, 30, 55);
        dueRow(asked(x, 5, 2), 1, 1, 30, 55);
        x.set(1, 11);
        dueRow(asked(x, 4, 1), 1, 1, 30, 55);
        dueRow(asked(x, 5, 1), 1, 1, 30, 55);
        x.set(1, 12);
        dueRow(asked(x, 4, 1), 1, 1, 55, 80);
        dueRow(asked(x, 4, 2), 1, 1, 55, 80);
        dueRow(asked(x, 5, 1), 0, 0, 30, 55);
        dueRow(asked(x, 3, 1), 1, 1, 30, 55);
        ruled(x, "walk 60;carry 80;may street<3;");
        dueRow(asked(x, 1, 1), 1, 1, 60, 80);
        dueRow(asked(x, 2, 2), 1, 0, 99, 99);
        dueRow(asked(x, 3, 2), 0, 0, 60, 80);
        dueRow(asked(x, 4, 2), 0, 0, 85, 99);
        ruled(x, "walk -9;carry 9999;may not 0;");
        dueRow(asked(x, 2, 2), 1, 0, 2, 99);
        dueRow(asked(x, 4, 2), 1, 1, 26, 99);
    }

    // ---- rings

    private static void ring() {
        promise = "12 ring";
        HomeByAnotherWay x = town(1, 12, 20, 10);
        dueRow(ring(x, 1), 2, 9, 0, 2);
        dueRow(ring(x, 2), 3, 7, 0, 3);
        dueRow(ring(x, 3), -1, -1, -1, -1);
        x.gone(1);
        dueRow(ring(x, 1), 3, 14, 2, 3);
        x.gone(0);
        dueAll(-5, x.ring(0, 0), x.ring(-1, 0), x.ring(9, 0), x.ring(9, 9), x.ring(0, -1), x.ring(MAX, 0), x.ring(MIN, 0));
        dueAll(-7, x.ring(1, -1), x.ring(1, 4), x.ring(3, 4), x.ring(1, MAX));
        x.set(0, 1);
        dueRow(ring(x, 0), 2, 9, 0, 2);
        due(x.ring(1, 0), -5);
        // Of like minutes the first by numbers, street by street; not the one of fewest streets.
        x = new HomeByAnotherWay();
        x.street(0, 1, 4, 0);
        x.street(0, 1, 2, 0);
        x.street(0, 2, 1, 0);
        x.street(0, 21, 1, 0);
        dueRow(ring(x, 1), 4, 14, 1, 3);
        x = new HomeByAnotherWay();
        x.street(0, 2, 1, 0);
        x.street(0, 21, 1, 0);
        x.street(0, 1, 2, 0);
        x.street(0, 1, 2, 0);
        dueRow(ring(x, 1), 4, 7, 0, 3);
        x.street(1, 10, 2, 0);
        dueRow(ring(x, 1), 4, 7, 0, 3);
        // A ring may pass home ahead of the corner, and pass corners twice.
        x = town(1, 12, 20, 13, 34, 41);
        dueRow(ring(x, 3), 6, 63, 0, 6);
        x = new HomeByAnotherWay();
        x.street(1, 1, 1, 0);
        x.street(1, 10, 1, 0);
        dueRow(ring(x, 1), 2, 3, 0, 2);
        // A bridge spends all with its like.
        x = new HomeByAnotherWay();
        x.street(3, 1, 1, 7);
        x.street(5, 1, 1, 7);
        dueRow(ring(x, 1), -1, -1, -1, -1);
        x.street(3, 1, 9, 8);
        dueRow(ring(x, 1), 10, 5, 0, 2);
        x.street(2, 1, 2, 7);
        dueRow(ring(x, 1), 3, 9, 3, 2);
        dueRow(new long[] {x.gone(8), x.ring(1, 1)}, 0, 5);
        // Twelve streets, a ring of them all.
        x = town(1, 12, 23, 34, 45, 56, 67, 78, 81, 14, 47, 70);
        dueRow(new long[] {x.calls(511, -1, 0), x.calls(511, -1, 1), x.calls(511, -1, 3)}, 12, 4095, 12);
    }

    private static void ringOnce() {
        promise = "12 ring, once";
        HomeByAnotherWay x = town(1, 12, 20, 13, 34, 41);
        x.set(2, 1);
        dueRow(ring(x, 1), 3, 7, 0, 3);
        dueRow(ring(x, 3), -1, -1, -1, -1);
        x = town(1, 12, 20, 3, 34, 40);
        due(x.calls(20, -1, 0), 6);
        due(x.calls(20, -1, 1), 63);
        x.set(2, 1);
        due(x.calls(20, -1, 0), -1);
        due(x.calls(24, -1, 1), 56);
        due(x.ring(4, 1), 56);
    }

    private static void heavy() {
        promise = "13 heavy";
        HomeByAnotherWay x = new HomeByAnotherWay();
        x.street(0, 1, 2, 9);
        x.street(0, 1, 3, 1);
        x.street(0, 1, 4, 1);
        dueRow(heavy(x, 1), 6, 3, 0, 2);
        dueRow(ring(x, 1), 5, 3, 0, 2);
        x = new HomeByAnotherWay();
        x.street(2, 1, 1, 0);
        x.street(2, 1, 1, 0);
        dueRow(heavy(x, 1), -1, -1, -1, -1);
        dueRow(ring(x, 1), 3, 3, 0, 2);
        x.street(0, 1, 50, 9);
        dueRow(heavy(x, 1), 60, 5, 0, 2);
        // The load comes with the first time at the corner, and goes all the way.
        x = town(1, 12, 23, 30);
        dueRow(heavy(x, 1), 5, 15, 3, 4);
        dueRow(heavy(x, 3), 5, 15, 0, 4);
        dueRow(heavy(x, 2), 6, 15, 0, 4);
        dueRow(heavy(x, 4), -1, -1, -1, -1);
        dueAll(-5, x.heavy(0, 0), x.heavy(-1, 0), x.heavy(9, 0), x.heavy(0, 9), x.heavy(MAX, 0));
        dueAll(-7, x.heavy(1, -1), x.heavy(1, 4), x.heavy(4, MIN));
    }

    private static void gap() {
        promise = "14 gap";
        HomeByAnotherWay x = new HomeByAnotherWay();
        x.street(0, 1, 2, 9);
        x.street(0, 1, 3, 1);
        due(x.gap(1), 1);
        due(x.gap(2), -1);
        ruled(x, "walk base+10;carry 1;may 1;");
        due(x.gap(1), -12);
        dueAll(-5, x.gap(0), x.gap(-1), x.gap(9), x.gap(MAX));
        x = new HomeByAnotherWay();
        x.street(2, 1, 1, 0);
        x.street(2, 1, 1, 0);
        due(x.ring(1, 0), 3);
        due(x.gap(1), -1);
    }

    private static void calls() {
        promise = "15 calls";
        HomeByAnotherWay x = town(1, 12, 20, 3, 34, 40);
        due(x.calls(2, -1, 0), 3);
        due(x.calls(3, -1, 0), 3);
        due(x.calls(2 | 8, -1, 0), 6);
        due(x.calls(2 | 8, -1, 1), 63);
        due(x.calls(2 | 8, -1, 2), 0);
        due(x.calls(2 | 8, -1, 3), 6);
        due(x.calls(2 | 8, 1, 0), 7);
        due(x.calls(2 | 8, 1, 2), 3);
        due(x.calls(2 | 8, 3, 0), 7);
        due(x.calls(2 | 8, 3, 2), 0);
        due(x.calls(0, -1, 0), 3);
        due(x.calls(1, -1, 0), 3);
        due(x.calls(511, -1, 0), -1);
        dueAll(BAD, x.calls(-1, -1, 0), x.calls(512, -1, 0), x.calls(512, 8, 9), x.calls(MIN, -1, 0));
        dueAll(-5, x.calls(2, 2, 0), x.calls(2, -2, 0), x.calls(3, 0, 0), x.calls(0, 0, 0), x.calls(511, 9, 0), x.calls(2, MAX, 9), x.calls(2, 33, 0));
        dueAll(-7, x.calls(2, -1, -1), x.calls(2, 1, 4), x.calls(128, -1, MAX));
        x.set(0, 1);
        due(x.calls(3, 0, 0), 4);
        due(x.calls(2, 1, 0), -5);
    }

    private static void two() {
        promise = "16 two";
        HomeByAnotherWay x = town(1, 12, 20, 3, 34, 40);
        due(x.two(2, 8, 0), 6);
        due(x.two(2, 8, 1), 0);
        due(x.two(8, 3, 0), 6);
        due(x.two(2, 4, 0), -1);
        due(x.two(2, 4, 1), -1);
        due(x.two(2, 32, 0), -1);
        x.set(2, 1);
        due(x.two(2, 8, 0), 6);
        due(x.two(2, 8, 1), -1);
        dueAll(BAD, x.two(0, 8, 0), x.two(1, 8, 0), x.two(8, 1, 0), x.two(2, 0, 9), x.two(-1, 2, 0), x.two(2, 512, 0), x.two(MAX, 2, 0), x.two(2, MIN, 0));
        dueAll(-7, x.two(2, 8, -1), x.two(2, 8, 2), x.two(32, 32, MAX));
        // The two share nothing, so that the first may have to leave its least; together they may take longer than one.
        x = new HomeByAnotherWay();
        x.street(0, 1, 1, 0);
        x.street(0, 1, 2, 0);
        x.street(0, 1, 30, 0);
        x.street(0, 1, 40, 0);
        x.street(0, 12, 1, 0);
        x.street(0, 12, 1, 0);
        due(x.two(2, 4, 0), 75);
        due(x.two(4, 2, 0), 75);
        due(x.two(2, 4, 1), 70);
        due(x.two(2, 2, 0), 73);
        due(x.two(6, 6, 0), -1);
        x.gone(2);
        due(x.two(2, 4, 0), -1);
        // Nor may the second go what the first spent.
        x = new HomeByAnotherWay();
        x.street(3, 1, 1, 0);
        x.street(0, 1, 1, 0);
        x.street(5, 2, 1, 0);
        x.street(0, 2, 1, 0);
        due(x.two(2, 4, 0), -1);
        x.street(0, 2, 9, 0);
        due(x.two(2, 4, 0), 12);
        due(x.two(4, 2, 0), 12);
        due(x.two(4, 2, 1), 0);
        // One ring to all may take longer than two, if no corner may be passed twice.
        x = town(1, 1, 2, 2);
        x.street(0, 12, 99, 0);
        x.set(2, 1);
        due(x.two(2, 4, 0), 4);
        due(x.two(2, 4, 1), -97);
    }

    private static void round() {
        promise = "17 round";
        HomeByAnotherWay x = town(12, 23, 31, 1);
        dueAll(-1, x.round(0), x.round(1), x.round(2), x.round(3));
        x.street(0, 20, 5, 0);
        dueRow(new long[] {x.round(0), x.round(1), x.round(2), x.round(3)}, 7, 25, 3, 3);
        x.set(0, 1);
        dueRow(new long[] {x.round(0), x.round(1), x.round(2), x.round(3)}, 3, 7, 0, 3);
        x.set(0, 8);
        due(x.round(0), -1);
        dueAll(BAD, x.round(-1), x.round(4), x.round(MAX), x.round(MIN));
    }

    // ---- places without, streets that bar

    private static void never() {
        promise = "18 never";
        HomeByAnotherWay x = town(1, 12, 20, 23, 45, 56, 64);
        dueRow(new long[] {x.never(0), x.never(1), x.never(2)}, 6, 8, 496);
        x.gone(8);
        dueRow(new long[] {x.never(0), x.never(1), x.never(2)}, 6, 0, 504);
        x.gone(1);
        dueRow(new long[] {x.never(0), x.never(1), x.never(2)}, 0, 14, 496);
        x.set(0, 4);
        dueRow(new long[] {x.never(0), x.never(1), x.never(2)}, 96, 0, 399);
        dueAll(BAD, x.never(-1), x.never(3), x.never(MAX), x.never(MIN));
        // None is spent on a way, nor does it matter whether a corner may be passed twice.
        x = new HomeByAnotherWay();
        x.street(3, 1, 1, 0);
        x.street(3, 12, 1, 0);
        x.street(1, 32, 1, 0);
        x.street(2, 42, 1, 0);
        x.set(2, 1);
        dueRow(new long[] {x.never(0), x.never(1), x.never(2)}, 0, 22, 488);
        ruled(x, "walk 1;carry 1;may street=0 or street=3;");
        dueRow(new long[] {x.never(0), x.never(1), x.never(2)}, 0, 2, 508);
        x = town(78, 67, 56, 45, 34, 23, 12, 1);
        dueRow(new long[] {x.never(0), x.never(1), x.never(2)}, 0, 510, 0);
    }

    private static void bars() {
        promise = "19 bars";
        HomeByAnotherWay x = town(1, 12, 20, 10, 23, 34, 42);
        due(x.bars(1), 0);
        due(x.bars(2), 2 | 4);
        due(x.bars(3), 2 | 4 | 16 | 32 | 64);
        x.gone(8);
        due(x.bars(1), 7);
        due(x.bars(3), 127 ^ 8);
        dueAll(STATE, x.bars(5), x.bars(8));
        dueAll(-5, x.bars(0), x.bars(-1), x.bars(9), x.bars(MAX));
        x.gone(16);
        due(x.bars(3), STATE);
    }

    private static void bears() {
        promise = "20 bears";
        HomeByAnotherWay x = town(1, 12, 20, 10, 23, 34, 42);
        due(x.bears(), 2 | 4 | 16 | 32 | 64);
        x.gone(8);
        due(x.bears(), 127 ^ 8);
        x.gone(16);
        due(x.bears(), 2 | 4);
        x.set(0, 7);
        due(x.bears(), 0);
    }

    private static void part() {
        promise = "21 part";
        HomeByAnotherWay x = town(1, 12, 20, 34, 45, 53);
        due(x.part(0), 6);
        due(x.part(1), 5);
        due(x.part(4), 32 | 8);
        due(x.part(8), 0);
        due(x.count(0), 0);
        due(x.never(0), 6);
        dueAll(-5, x.part(-1), x.part(9), x.part(MAX), x.part(MIN));
        x = new HomeByAnotherWay();
        x.street(3, 1, 1, 0);
        x.street(3, 12, 1, 0);
        x.street(0, 12, 1, 0);
        x.street(0, 1, 1, 0);
        due(x.part(0), 2);
        due(x.part(1), 5);
        due(x.part(2), 2);
    }

    private static void house() {
        promise = "22 house";
        HomeByAnotherWay x = new HomeByAnotherWay();
        x.street(0, 1, 5, 0);
        x.street(0, 1, 5, 0);
        x.street(0, 12, 1, 0);
        x.street(0, 12, 1, 0);
        x.street(0, 23, 2, 0);
        x.street(0, 23, 2, 0);
        due(x.house(1 | 8, 0), 0);
        due(x.house(1 | 8, 1), 16);
        due(x.house(4 | 8, 0), 2);
        due(x.house(4 | 8, 1), 4);
        due(x.house(15, 0), 1);
        due(x.house(15, 1), 10 + 2 + 6);
        due(x.house(2, 0), 1);
        due(x.house(2, 1), 0);
        due(x.house(0, 0), 0);
        due(x.house(0, 1), 0);
        due(x.house(256, 0), 8);
        due(x.house(256 | 1, 0), -1);
        due(x.house(256 | 1, 1), -1);
        dueAll(BAD, x.house(-1, 0), x.house(512, 0), x.house(512, 9), x.house(MAX, 0));
        dueAll(-7, x.house(1, -1), x.house(1, 2), x.house(1, MIN));
        due(x.count(0), 0);
        // A corner's minutes are the sum of a ring to each, from it.
        x = new HomeByAnotherWay();
        x.street(1, 1, 1, 0);
        x.street(1, 12, 1, 0);
        x.street(1, 20, 1, 0);
        due(x.house(7, 1), 6);
        due(x.house(7, 0), 0);
        x = new HomeByAnotherWay();
        x.street(2, 1, 1, 9);
        x.street(2, 1, 1, 9);
        due(x.house(3, 1), 3);
    }

    // ---- lanes

    private static void lane() {
        promise = "23 lane";
        HomeByAnotherWay x = new HomeByAnotherWay();
        due(x.lane(1, 0), -1);
        due(x.lane(1, 1), 0);
        x = town(1);
        due(x.lane(1, 0), 1);
        due(x.lane(1, 1), 1);
        x = town(1, 12, 23);
        due(x.lane(99, 0), 3);
        due(x.lane(99, 1), 3);
        x.gone(4);
        due(x.lane(99, 0), 2);
        due(x.lane(99, 1), 2);
        x.gone(1);
        due(x.lane(99, 0), -1);
        due(x.lane(99, 1), 0);
        x.set(0, 2);
        due(x.lane(1, 0), 13);
        due(x.lane(1, 1), 2);
        dueAll(BAD, x.lane(0, 0), x.lane(100, 0), x.lane(-1, 9), x.lane(MAX, 0));
        dueAll(-7, x.lane(1, -1), x.lane(1, 2), x.lane(99, MIN));
        due(x.count(3), 3);
        // The lane may always be gone, and comes besides twelve streets, too.
        x = town(1, 12, 23, 34, 45, 56, 67, 78, 1, 12, 23, 34);
        due(x.never(0), 30);
        due(x.lane(5, 0), 8);
        due(x.lane(5, 1), 8);
        x.set(2, 1);
        due(x.lane(5, 0), 8);
        due(x.lane(5, 1), 8);
        ruled(x, "walk 1;carry 1;may street=0;");
        due(x.lane(5, 0), 1);
        due(x.lane(5, 1), 1);
        // It spends itself alone, and no bridge spends it.
        x = new HomeByAnotherWay();
        x.street(3, 1, 1, 0);
        x.street(3, 12, 1, 0);
        due(x.lane(5, 0), 1);
        due(x.lane(5, 1), 1);
        // Two corners that have no street to home are of no use, if none may be passed twice.
        x = town(1, 12, 20, 23);
        due(x.lane(1, 0), 3);
        due(x.lane(1, 1), 3);
        x.set(2, 1);
        due(x.lane(1, 0), 3);
        x.set(1, 20);
        x.gone(2);
        due(x.lane(1, 0), 13);
        due(x.lane(1, 1), 3);
    }

    private static void newly() {
        promise = "24 newly";
        due(new HomeByAnotherWay().newly(), 0);
        due(town(1).newly(), 1);
        due(town(1, 10).newly(), 0);
        due(town(1, 12, 20).newly(), 0);
        due(town(1, 12, 20, 34).newly(), 1 + 1);
        due(town(1, 12, 20, 34, 45, 53).newly(), 2);
        due(town(1, 12, 23).newly(), 1);
        due(town(1, 2, 3).newly(), 2);
        due(town(1, 2, 3, 4).newly(), 2);
        due(town(1, 2, 3, 4, 5).newly(), 3);
        due(town(1, 23).newly(), 2);
        due(town(12, 21).newly(), 0);
        due(town(12, 23).newly(), 1);
        due(town(1, 12, 20, 13).newly(), 1);
        HomeByAnotherWay x = town(1, 12, 20);
        x.gone(7);
        due(x.newly(), 0);
        ruled(x, "walk 1;carry 1;may 0;");
        due(x.newly(), 0);
        x = new HomeByAnotherWay();
        x.street(1, 1, 1, 0);
        x.street(1, 1, 1, 0);
        due(x.newly(), 0);
    }

    private static void bond() {
        promise = "25 bond";
        HomeByAnotherWay x = town(1, 12, 20, 23, 34, 43, 56);
        due(x.bond(0, 0), 8 | 64);
        due(x.bond(8, 0), 8 | 64);
        long[] parts = new long[9];
        for (int c = 0; c < 9; c++) parts[c] = x.bond(c, 1);
        dueRow(parts, 7, 7, 7, 24, 24, 32, 64, 128, 256);
        x.gone(127);
        due(x.bond(1, 1), 7);
        x.set(0, 4);
        due(x.bond(0, 0), 8 | 64);
        dueAll(-5, x.bond(-1, 0), x.bond(9, 0), x.bond(9, 9), x.bond(MAX, 1));
        dueAll(-7, x.bond(0, -1), x.bond(0, 2), x.bond(8, MIN));
        due(new HomeByAnotherWay().bond(3, 1), 8);
        due(new HomeByAnotherWay().bond(3, 0), 0);
        due(town(1, 12, 23, 34, 45, 56, 67, 78).bond(8, 1), 256);
        due(town(78, 67, 56, 45, 34, 23, 12, 1, 80).bond(0, 1), 511);
        // From corner 0 on, one street a round alone: the farthest is eight rounds away.
        x = town(78, 67, 56, 45, 34, 23, 12, 1, 8);
        dueRow(new long[] {x.bond(0, 0), x.bond(0, 1), x.bond(8, 1)}, 0, 511, 511);
    }

    // ---- hours, texts

    private static void hours() {
        promise = "26 hours";
        HomeByAnotherWay x = new HomeByAnotherWay();
        x.street(5, 1, 1, 0);
        x.street(4, 1, 1, 3);
        x.street(5, 12, 1, 1);
        x.street(0, 12, 1, 0);
        due(x.hours(1, 0), 4095);
        due(x.hours(1, 1), 0);
        due(x.hours(2, 0), 4095);
        x.street(0, 1, 9, 0);
        due(x.hours(1, 0), 16777215);
        due(x.hours(1, 1), 0);
        due(x.hours(2, 0), 4095);
        due(x.hours(3, 0), 0);
        due(x.hours(3, 1), -1);
        ruled(x, "walk 30-hour;carry 1;may not hour=5 and not hour=11;");
        due(x.hours(1, 0), 16777215 ^ (1 << 5 | 1 << 11));
        due(x.hours(1, 1), 23);
        due(x.hours(2, 1), 10);
        due(x.count(1), 8);
        ruled(x, "walk (hour-7)*(hour-7)+1;carry 1;may 3<hour;");
        due(x.hours(1, 0), 16777215 ^ 15);
        due(x.hours(1, 1), 7);
        dueAll(-5, x.hours(0, 0), x.hours(-1, 0), x.hours(9, 0), x.hours(0, 9), x.hours(MAX, 0));
        dueAll(-7, x.hours(1, -1), x.hours(1, 2), x.hours(3, MIN));
        x = new HomeByAnotherWay();
        x.street(4, 1, 1, 3);
        x.street(0, 1, 1, 0);
        x.set(1, 23);
        due(x.hours(1, 1), 0);
        due(x.ring(1, 0), 5);
    }

    private static void laws() {
        promise = "27 laws";
        HomeByAnotherWay x = town(1, 10, 12, 21);
        due(x.laws(1), 1);
        write(x, "walk 1;carry 1;may 0;");
        write(x, "walk 1;carry 1;may street<2;");
        write(x, "walk 1;carry 1;may from<to;");
        write(x, "walk 1;carry 1;may hour<9;");
        write(x, "walk 1;carry 1;may 2;");
        due(x.laws(1), 1 | 4 | 16 | 32);
        due(x.laws(2), 1 | 16 | 32);
        due(x.laws(3), 0);
        due(x.count(6), 0);
        x.set(1, 9);
        x.force(1);
        due(x.laws(2), 1 | 32);
        x = new HomeByAnotherWay();
        x.street(2, 1, 1, 0);
        x.street(2, 1, 1, 0);
        due(x.laws(1), 1);
        dueAll(-5, x.laws(0), x.laws(-1), x.laws(9), x.laws(MAX));
    }

    // ---- walks

    private static void judge() {
        promise = "28 judge";
        HomeByAnotherWay x = town(1, 12, 20, 3, 30);
        due(x.judge(0), -11);
        dueAll(BAD, x.judge(-1), x.judge(4), x.judge(MAX));
        fill(x, 0);
        due(x.judge(0), -1);
        fill(x, 0, 0, 1, 2, 4, 3);
        due(x.judge(0), -1);
        fill(x, 0, 0, 2);
        due(x.judge(0), 1);
        fill(x, 0, 1);
        due(x.judge(0), 0);
        fill(x, 0, 0, 0);
        due(x.judge(0), 1);
        fill(x, 0, 0, 5);
        due(x.judge(0), 1);
        fill(x, 0, 0, -1);
        due(x.judge(0), 1);
        fill(x, 0, 0, 33);
        due(x.judge(0), 1);
        fill(x, 0, 0, 1);
        x.gone(2);
        due(x.judge(0), 1);
        x.gone(0);
        x.set(2, 1);
        fill(x, 0, 0, 1, 2);
        due(x.judge(0), -1);
        judgeHome(x);
        x.street(0, 12, 1, 1);
        fill(x, 0, 0, 1, 5);
        due(x.judge(0), 2);
        x.set(2, 0);
        due(x.judge(0), -1);
        // Bytes and shorts tell streets, too.
        x.sheet(1, 0, 2);
        x.cell(1, 0, 256);
        x.cell(1, 1, 1 - 512);
        due(x.judge(1), -1);
        x.cell(1, 1, 255);
        due(x.judge(1), 1);
        // What is spent, and what may not be gone.
        x = new HomeByAnotherWay();
        x.street(3, 1, 1, 0);
        x.street(5, 10, 1, 0);
        x.street(1, 1, 1, 0);
        fill(x, 3, 0, 1);
        due(x.judge(3), 1);
        fill(x, 3, 0, 2);
        due(x.judge(3), 1);
        fill(x, 3, 2, 1);
        due(x.judge(3), -1);
        x.set(1, 12);
        due(x.judge(3), 1);
    }

    /** Streets 0, 1, 2 go round; with ONCE 1 home may be passed only as the last that is told. */
    private static void judgeHome(HomeByAnotherWay x) {
        int[][] behind = {{3}, {4, 3}, {0}, {-1}, {99}, {MAX, 0, 0}};
        for (int[] more : behind) {
            int[] told = {0, 1, 2};
            fill(x, 0, joined(told, more));
            due(x.judge(0), 2);
            due(x.walk(0, 0), x.asks(0, 0, 2) + x.asks(1, 1, 2));
            due(x.walk(0, 1), 2);
        }
        fill(x, 0, 2, 1, 0);
        due(x.judge(0), -1);
        due(x.walk(0, 1), 0);
        fill(x, 0, 2, 0, 1);
        due(x.judge(0), 1);
        // If it may be passed, it may be in the middle, and what is none is told for itself.
        x.set(2, 0);
        fill(x, 0, 0, 1, 2, 3, 4);
        due(x.judge(0), -1);
        due(x.walk(0, 1), 0);
        fill(x, 0, 0, 1, 2, 99);
        due(x.judge(0), 3);
        due(x.walk(0, 1), 0);
        // Another home: the same streets pass corner 0 as any other.
        x.set(2, 1);
        x.set(0, 1);
        fill(x, 0, 1, 2, 0);
        due(x.judge(0), -1);
        fill(x, 0, 1, 2, 0, 3);
        due(x.judge(0), 2);
        due(x.walk(0, 1), 0);
        x.set(0, 0);
        // A street there and another back.
        fill(x, 0, 3, 4);
        due(x.judge(0), -1);
        fill(x, 0, 3, 4, 0);
        due(x.judge(0), 1);
        due(x.walk(0, 1), 3);
    }

    private static int[] joined(int[] ahead, int[] behind) {
        int[] all = java.util.Arrays.copyOf(ahead, ahead.length + behind.length);
        System.arraycopy(behind, 0, all, ahead.length, behind.length);
        return all;
    }

    private static void walk() {
        promise = "29 walk";
        HomeByAnotherWay x = new HomeByAnotherWay();
        x.street(0, 1, 5, 9);
        x.street(2, 21, 7, 9);
        x.street(0, 20, 9, 9);
        dueAll(-11, x.walk(0, 0), x.walk(3, 9));
        dueAll(BAD, x.walk(-1, 0), x.walk(4, 9), x.walk(MIN, 0));
        fill(x, 0, 0, 1, 2);
        due(x.walk(0, 0), 5 + 14 + 9);
        due(x.walk(0, 1), 0);
        dueAll(-7, x.walk(0, -1), x.walk(0, 2), x.walk(0, MAX));
        fill(x, 0, 0, 1, 0, 2);
        due(x.walk(0, 0), 19);
        due(x.walk(0, 1), 2);
        fill(x, 0);
        due(x.walk(0, 0), 0);
        x.set(0, 2);
        due(x.walk(0, 1), 2);
        fill(x, 0, 1, 7, 0);
        due(x.walk(0, 0), 7);
        due(x.walk(0, 1), 1);
        due(x.count(4), 0);
        // With ONCE 1 a street that comes home, and isn't the last told, is not gone.
        x.set(0, 0);
        fill(x, 0, 0, 1, 2, 0);
        due(x.walk(0, 0), 28);
        due(x.walk(0, 1), 0);
        x.set(2, 1);
        due(x.walk(0, 0), 19);
        due(x.walk(0, 1), 2);
        fill(x, 0, 0, 1, 2);
        due(x.walk(0, 0), 28);
        due(x.walk(0, 1), 0);
    }

    private static void show() {
        promise = "30 show";
        HomeByAnotherWay x = town(10, 21, 2);
        x.street(0, 1, 9, 0);
        dueAll(-5, x.show(0, 0), x.show(-1, 0), x.show(9, 0), x.show(0, 9), x.show(MAX, 9));
        dueAll(BAD, x.show(1, -1), x.show(1, 4), x.show(5, 4), x.show(1, MIN));
        x.sheet(0, 0, 9);
        due(x.show(5, 0), -1);
        due(x.cell(0, 8, 7), 1);
        due(x.show(5, 1), -1);
        due(x.cell(1, 0, 0), -11);
        x.gone(1);
        due(x.show(1, 0), 3);
        due(x.cell(0, 3, 7), -12);
        x.gone(0);
        due(x.show(1, 2), 3);
        due(x.judge(2), -1);
        due(x.walk(2, 0), 3);
        x.sheet(1, 2, 3);
        due(x.copy(2, 0, 1, 0, 3), 3);
        x.gone(1);
        due(x.show(1, 0), 3);
        // As they are gone, and not by their numbers: each alone behind those ahead takes its own minutes.
        x = new HomeByAnotherWay();
        x.street(0, 12, 2, 0);
        x.street(1, 20, 3, 0);
        x.street(0, 31, 5, 0);
        x.street(0, 3, 7, 0);
        x.set(0, 3);
        due(x.show(2, 3), 4);
        x.sheet(0, 2, 1);
        x.sheet(1, 2, 2);
        x.sheet(2, 2, 3);
        dueRow(new long[] {x.copy(3, 0, 0, 0, 1), x.copy(3, 0, 1, 0, 2), x.copy(3, 0, 2, 0, 3)}, 1, 2, 3);
        dueRow(new long[] {x.walk(0, 0), x.walk(1, 0), x.walk(2, 0), x.walk(3, 0)}, 5, 7, 10, 17);
        dueRow(new long[] {x.walk(0, 1), x.walk(1, 1), x.walk(2, 1), x.walk(3, 1)}, 1, 2, 0, 3);
        due(x.cell(3, 4, 0), -12);
        due(x.streetsBy(3, 2, 0, 0), 0);
    }

    private static void drawn() {
        promise = "31 drawn";
        HomeByAnotherWay x = new HomeByAnotherWay();
        dueRow(new long[] {x.drawn(0, 0), x.drawn(0, 1), x.drawn(0, 2)}, 0, 0, 0);
        x.street(0, 1, 3, 9);
        dueRow(new long[] {x.drawn(0, 0), x.drawn(0, 1), x.drawn(0, 2)}, 3, 1, 1);
        x.street(2, 1, 5, 9);
        // The first lot of 0 is 48271, odd; of 1 it is 96542, even.
        dueRow(new long[] {x.drawn(0, 0), x.drawn(0, 1), x.drawn(0, 2)}, 5 + 3, 0, 2);
        dueRow(new long[] {x.drawn(1, 0), x.drawn(1, 1), x.drawn(1, 2)}, 3 + 10, 0, 2);
        x = new HomeByAnotherWay();
        for (int i = 0; i < 5; i++) x.street(0, 1, 1 << i, 0);
        due(x.drawn(99999, 0), lots(99999, 1, 2, 4, 8, 16));
        due(x.drawn(54321, 0), lots(54321, 1, 2, 4, 8, 16));
        due(x.drawn(7, 0), lots(7, 1, 2, 4, 8, 16));
        x.gone(4);
        due(x.drawn(7, 0), lots(7, 1, 2, 8, 16));
        dueAll(BAD, x.drawn(-1, 0), x.drawn(100000, 0), x.drawn(0, -1), x.drawn(0, 3), x.drawn(MIN, 0), x.drawn(MAX, MAX));
        // It ends when one is home again, or where no street may be next.
        x = town(1, 10, 2, 20);
        due(x.drawn(5, 2), 2);
        x = town(1, 12, 23, 34, 45, 56, 67, 78);
        dueRow(new long[] {x.drawn(5, 0), x.drawn(5, 1), x.drawn(5, 2)}, 8, 8, 8);
        x = town(1, 12, 21);
        x.set(2, 1);
        dueRow(new long[] {x.drawn(5, 0), x.drawn(5, 1), x.drawn(5, 2)}, 2, 2, 2);
        x.street(0, 20, 1, 0);
        x.gone(1);
        dueRow(new long[] {x.drawn(5, 1), x.drawn(5, 2)}, 1, 2);
    }

    /** The minutes of the first two streets of a walk by lot between two corners. */
    private static long lots(long seed, int... minutes) {
        long first = (seed + 1) * 48271 % 2147483647, second = first * 48271 % 2147483647;
        int a = (int) (first % minutes.length), b = (int) (second % (minutes.length - 1));
        return minutes[a] + minutes[b < a ? b : b + 1];
    }

    private static void odds() {
        promise = "32 odds";
        HomeByAnotherWay x = new HomeByAnotherWay();
        dueRow(new long[] {x.odds(0, 7, 0, 0), x.odds(0, 7, 0, 1), x.odds(0, 7, 1, 0), x.odds(0, 7, 1, 1)}, 0, 1, 0, 1);
        x.street(0, 1, 1, 0);
        dueRow(new long[] {x.odds(0, 50, 0, 0), x.odds(0, 50, 0, 1), x.odds(0, 50, 1, 0), x.odds(0, 50, 1, 1)}, 0, 1, 1, 1);
        x.street(0, 1, 1, 0);
        dueRow(new long[] {x.odds(0, 50, 0, 0), x.odds(0, 50, 0, 1), x.odds(0, 50, 1, 0), x.odds(0, 50, 1, 1)}, 1, 1, 2, 1);
        // Street 2 goes nowhere; of the seeds 0 .. 7 the first lots modulo 3 are 1 2 0 1 2 0 1 2.
        x.street(0, 2, 1, 0);
        dueRow(new long[] {x.odds(0, 8, 0, 0), x.odds(0, 8, 0, 1), x.odds(0, 8, 1, 0), x.odds(0, 8, 1, 1)}, 5, 8, 13, 8);
        dueRow(new long[] {x.odds(0, 2, 0, 0), x.odds(0, 2, 0, 1), x.odds(1, 1, 0, 0), x.odds(1, 1, 0, 1)}, 1, 2, 0, 1);
        dueRow(new long[] {x.odds(0, 6, 0, 0), x.odds(0, 6, 0, 1)}, 2, 3);
        due(x.odds(99999, 1, 0, 1), 1);
        dueAll(NO, x.odds(-1, 1, 0, 0), x.odds(100000, 1, 0, 0), x.odds(0, 0, 0, 0), x.odds(0, 51, 0, 0), x.odds(0, -1, 0, 0), x.odds(0, 1, -1, 0),
            x.odds(0, 1, 2, 0), x.odds(0, 1, 0, -1), x.odds(0, 1, 0, 2), x.odds(MIN, MAX, 0, 0), x.odds(MAX, 1, 0, 0));
    }

    private static void image() {
        promise = "33 image";
        HomeByAnotherWay x = new HomeByAnotherWay();
        due(x.image(), 0);
        x.street(0, 1, 1, 1);
        x.street(0, 1, 1, 1);
        due(x.image(), 2);
        due(x.count(3), 2);
        x.set(0, 3);
        due(x.image(), 2);
        x.set(0, 4);
        due(x.back(), 2);
        due(x.count(0), 3);
    }

    private static void back() {
        promise = "34 back";
        HomeByAnotherWay x = town(1, 12, 20);
        due(x.back(), STATE);
        ruled(x, "walk 1;carry 1;may 1;");
        x.set(0, 2);
        x.set(1, 22);
        x.set(2, 1);
        x.gone(5);
        x.image();
        x.set(0, 1);
        x.set(1, 1);
        x.set(2, 0);
        x.street(0, 78, 1, 1);
        x.gone(10);
        write(x, "walk 1;carry 1;may 1;");
        x.force(2);
        x.feed(2, 1, 1, 1, 1, 1);
        x.sheet(0, 1, 1);
        dueRow(counts(x), 1, 1, 0, 4, 10, 3, 2, 2);
        due(x.back(), 3);
        dueRow(counts(x), 2, 22, 1, 3, 5, 3, 1, 2);
        due(x.cell(0, 0, 1), 1);
        due(x.told(3, 0), -5);
        x.set(0, 7);
        due(x.back(), 3);
        due(x.count(0), 2);
        x.street(0, 1, 1, 1);
        x.close();
        due(x.back(), 3);
        x.close();
        due(x.back(), STATE);
        dueRow(counts(x), 2, 22, 1, 2, 1, 3, 1, 2);
    }

    // ---- the host

    private static void sheet() {
        promise = "35 sheet";
        HomeByAnotherWay x = new HomeByAnotherWay();
        dueAll(1, x.sheet(0, 0, 0), x.sheet(1, 1, 40), x.sheet(2, 2, 1), x.sheet(3, 2, 40));
        dueAll(-12, x.cell(0, 0, 0), x.cell(1, 40, 0), x.cell(2, 1, 0));
        dueAll(1, x.cell(1, 39, 0), x.cell(2, 0, 0), x.cell(3, 39, 9));
        dueAll(BAD, x.sheet(-1, 0, 0), x.sheet(4, 0, 0), x.sheet(0, -2, 0), x.sheet(0, 3, 0), x.sheet(0, 0, 41), x.sheet(0, 2, MAX), x.sheet(4, 0, -1),
            x.sheet(0, 3, -1), x.sheet(MIN, 0, 0));
        dueAll(-14, x.sheet(3, 0, -1), x.sheet(3, 2, MIN));
        due(x.cell(3, 39, 9), 1);
        dueAll(1, x.sheet(3, -1, 0), x.sheet(2, -1, -9), x.sheet(1, -1, 41));
        dueAll(-11, x.cell(3, 0, 0), x.cell(2, 0, 0), x.cell(1, 0, 0));
        // A row made anew is all 0.
        x = town(1, 1);
        fill(x, 0, 1, 1);
        due(x.judge(0), 1);
        x.sheet(0, 2, 2);
        x.gone(1);
        due(x.judge(0), 0);
    }

    private static void cell() {
        promise = "36 cell";
        HomeByAnotherWay x = town(1, 1, 12);
        dueAll(BAD, x.cell(-1, 0, 0), x.cell(4, 0, 0), x.cell(MAX, -1, 0));
        dueAll(-11, x.cell(0, 0, 0), x.cell(3, -1, 0));
        x.sheet(0, 2, 2);
        dueAll(-12, x.cell(0, -1, 0), x.cell(0, 2, 0), x.cell(0, MAX, 0), x.cell(0, MIN, 0));
        due(x.cell(0, 0, 1), 1);
        due(x.cell(0, 1, 2), 1);
        due(x.judge(0), -1);
        due(x.walk(0, 1), 2);
        due(x.cell(0, 0, 257), 1);
        due(x.judge(0), 0);
        due(x.cell(0, 0, 65537), 1);
        due(x.judge(0), 0);
        x.sheet(0, 0, 1);
        dueRow(new long[] {x.cell(0, 0, 257), x.judge(0), x.cell(0, 0, 255), x.judge(0), x.cell(0, 0, 65537), x.judge(0)}, 1, -1, 1, 0, 1, -1);
        x.sheet(0, 1, 1);
        dueRow(new long[] {x.cell(0, 0, 257), x.judge(0), x.cell(0, 0, 65537), x.judge(0), x.cell(0, 0, -65535), x.judge(0)}, 1, 0, 1, -1, 1, -1);
    }

    private static void copy() {
        promise = "37 copy";
        HomeByAnotherWay x = town(1, 12, 23, 34, 45, 56);
        dueAll(BAD, x.copy(-1, 0, 0, 0, 0), x.copy(4, 0, 0, 0, 0), x.copy(0, 0, -1, 0, 0), x.copy(0, 0, 4, 0, 0), x.copy(0, -1, 4, 0, -1));
        x.sheet(0, 2, 4);
        dueAll(-11, x.copy(0, 0, 1, 0, 1), x.copy(1, 0, 0, 0, 1), x.copy(2, 0, 3, -1, -1));
        x.sheet(1, 1, 4);
        x.sheet(2, 2, 6);
        dueAll(-13, x.copy(0, 0, 1, 0, 1), x.copy(1, 0, 0, 0, 1), x.copy(0, -1, 1, 0, -1), x.copy(0, 0, 1, 0, 0));
        dueAll(-12, x.copy(0, 0, 2, 0, -1), x.copy(0, -1, 2, 0, 1), x.copy(0, 0, 2, -1, 1), x.copy(0, 1, 2, 0, 4), x.copy(2, 0, 0, 0, 5), x.copy(2, 0, 0, 1, 4),
            x.copy(0, 5, 2, 0, 0), x.copy(2, 0, 0, 5, 0), x.copy(0, 1, 2, 0, MAX), x.copy(0, MAX, 2, 0, 1), x.copy(0, 0, 2, MAX, MAX), x.copy(0, MIN, 2, 0, 1));
        dueAll(0, x.copy(0, 4, 2, 6, 0), x.copy(0, 0, 2, 0, 0), x.copy(2, 6, 0, 4, 0));
        fill(x, 0, 0, 1, 2, 3);
        due(x.copy(0, 1, 2, 2, 3), 3);
        fill(x, 3, 0, 1);
        due(x.copy(3, 0, 2, 0, 2), 2);
        fill(x, 1, 4, 5);
        due(x.copy(2, 2, 2, 1, 3), 3);
        due(x.copy(2, 1, 2, 2, 4), 4);
        due(x.copy(3, 1, 2, 1, 1), 1);
        due(x.copy(2, 3, 2, 2, 3), 3);
        due(x.judge(2), 4);
        due(x.walk(2, 1), 4);
    }

    private static void streetsBy() {
        promise = "38 streetsBy";
        HomeByAnotherWay x = new HomeByAnotherWay();
        dueAll(BAD, x.streetsBy(-1, 2, 0, 1), x.streetsBy(4, 2, 0, 1), x.streetsBy(0, -1, 0, 1), x.streetsBy(0, 3, 0, 1), x.streetsBy(0, 2, 0, -1), x.streetsBy(0, 2, 0, 11),
            x.streetsBy(0, 2, -1, MAX));
        dueAll(-11, x.streetsBy(0, 2, 0, 1), x.streetsBy(3, 0, -1, 0));
        fill(x, 0, 9, 1, 12, 7, 8, 6, 1, 1, 1, 5, 78, 99, 99, 0, 1);
        dueAll(-13, x.streetsBy(0, 0, 0, 1), x.streetsBy(0, 1, -1, 1));
        dueAll(-12, x.streetsBy(0, 2, -1, 1), x.streetsBy(0, 2, 15, 1), x.streetsBy(0, 2, 12, 1), x.streetsBy(0, 2, MAX, 1), x.streetsBy(0, 2, MIN, 1), x.streetsBy(0, 2, -4, 2));
        due(x.count(3), 0);
        due(x.streetsBy(0, 2, 1, 0), 0);
        due(x.streetsBy(0, 2, 1, 3), 2);
        dueRow(new long[] {x.told(0, 0), x.told(0, 1), x.told(0, 2), x.told(0, 3), x.told(0, 4)}, 1, 1, 2, 7, 8);
        dueRow(new long[] {x.told(1, 0), x.told(1, 1), x.told(1, 2), x.told(1, 3), x.told(1, 4)}, 5, 7, 8, 99, 99);
        due(x.streetsBy(0, 2, 1, 4), -12);
        due(x.count(3), 4);
        due(x.streetsBy(0, 2, 11, 1), 0);
        // Streets that find no room are left out, and what lies outside is outside all the same.
        for (int i = 0; i < 4; i++) x.street(0, 1, 1, 1);
        x.sheet(1, 0, 40);
        for (int i = 0; i < 10; i++) {
            x.cell(1, 4 * i, 2);
            x.cell(1, 4 * i + 1, 12);
            x.cell(1, 4 * i + 2, 3);
        }
        due(x.streetsBy(1, 0, 0, 10), 4);
        due(x.count(3), 12);
        due(x.told(11, 0), 2);
        due(x.streetsBy(1, 0, 4, 10), -12);
        due(x.streetsBy(1, 0, 0, 10), 0);
        // Bytes and shorts.
        x = new HomeByAnotherWay();
        x.sheet(2, 1, 4);
        x.cell(2, 0, 65536 + 3);
        x.cell(2, 1, 87);
        x.cell(2, 2, 5);
        x.cell(2, 3, 65536);
        due(x.streetsBy(2, 1, 0, 1), 1);
        due(x.told(0, 0), 3);
    }

    private static void taken() {
        promise = "39 taken";
        HomeByAnotherWay x = new HomeByAnotherWay();
        for (int kind = 0; kind < 6; kind++) x.street(kind, kind + 1, 1, 1);
        for (int kind = 0; kind < 6; kind++) {
            long[] as = new long[7];
            for (int k = 0; k < 7; k++) as[k] = x.taken(9 + kind, k);
            long[] want = {kind, -13, -13, -13, -13, -13, -13};
            want[kind] = kind;
            if (kind == 5) want[3] = kind;
            dueRow(as, want);
        }
        due(x.count(3), 6);
        dueRow(new long[] {x.taken(0, 6), x.taken(1, 6), x.taken(6, 6), x.taken(7, 6), x.taken(8, 6)}, 6, 1, 1, 0, 0);
        dueAll(-13, x.taken(0, 0), x.taken(8, 5), x.taken(7, 3), x.taken(9, 6), x.taken(14, 6));
        dueAll(-11, x.taken(15, 0), x.taken(20, 5), x.taken(15, 6));
        dueAll(-12, x.taken(-1, 0), x.taken(21, 0), x.taken(21, 6), x.taken(MAX, 0), x.taken(MIN, 6));
        dueAll(BAD, x.taken(0, -1), x.taken(0, 7), x.taken(-1, 7), x.taken(20, MIN), x.taken(0, MAX));
        x.gone(63);
        due(x.taken(0, 6), 6);
        due(x.taken(9, 0), 0);
        x.close();
        due(x.taken(14, 0), -11);
        due(x.taken(0, 6), 5);
        due(x.taken(6, 6), 0);
    }
}
