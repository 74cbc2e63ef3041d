import java.util.ArrayList;
import java.util.List;

/** The Terms of texts: the tape, tokens, faults, what may be open, values, their numbers. */
final class TextEdges extends Edges {
    private static final String[] KEYS = {"walk", "carry", "may", "or", "and", "not"};
    private static final String[] NAMES = {"base", "more", "hour", "from", "to", "street"};
    private static final String SIGNS = "();+-*<=";
    private static final String START = "walk 1;carry 1;may ";

    /** What may be ahead, and then which tokens can stand: of KEYS, of SIGNS, whether a NUMBER, a NAME. */
    private static final Object[][] PLACES = {
        {"", "walk", "", false}, {"  \n", "walk", "", false},
        {"walk 1;", "carry", "", false}, {"walk 1;carry 1;", "may", "", false}, {"walk 1;carry 1;may 1;", "", "", false},
        {"walk", "not", "(-", true}, {"walk 1;carry", "not", "(-", true}, {START, "not", "(-", true},
        {START + "not", "not", "(-", true}, {START + "(", "not", "(-", true}, {START + "1 or", "not", "(-", true}, {START + "1 and", "not", "(-", true},
        {START + "-", "", "(-", true}, {START + "1 +", "", "(-", true}, {START + "1 -", "", "(-", true}, {START + "1 *", "", "(-", true},
        {START + "1 <", "", "(-", true}, {START + "1 =", "", "(-", true}, {START + "not 1 <", "", "(-", true}, {START + "(base =", "", "(-", true},
        {START + "1", "or and", ";+-*<=", false}, {START + "street", "or and", ";+-*<=", false}, {START + "(1)", "or and", ";+-*<=", false},
        {START + "-1", "or and", ";+-*<=", false}, {START + "not 1", "or and", ";+-*<=", false}, {START + "1+1", "or and", ";+-*<=", false},
        {START + "1 or 1", "or and", ";+-*<=", false}, {START + "1<1 and 1", "or and", ";+-*<=", false},
        {START + "1 < 1", "or and", ";+-*", false}, {START + "1 = 1", "or and", ";+-*", false}, {START + "1+1<1*1", "or and", ";+-*", false},
        {START + "not 1 = 1", "or and", ";+-*", false},
        {START + "(1", "or and", ")+-*<=", false}, {START + "(1=1", "or and", ")+-*", false}, {START + "((1)", "or and", ")+-*<=", false},
        {"walk 1", "or and", ";+-*<=", false}, {"walk 1;carry 1", "or and", ";+-*<=", false}};

    private TextEdges() {
    }

    static void test() {
        tape();
        tokens();
        blanks();
        grammar();
        faults();
        open();
        ends();
        values();
        wrapping();
        numbers();
        names();
    }

    private static long text(String text) {
        return new Town().text(text);
    }

    /** A text that can't stand as from this place on. */
    private static void fault(int place, String text) {
        due(text(text), -100 - place);
    }

    private static String filled(String ahead, String with, int size) {
        StringBuilder text = new StringBuilder(ahead);
        while (text.length() < size) text.append(with);
        return text.substring(0, size);
    }

    private static void tape() {
        says(0, "A TEXT is read from THE TAPE (160 bytes at most).");
        String longest = filled("walk 1;carry 1;may 1", "+1", 158);
        due(text(longest + ";"), 1);
        due(text(longest + ";\n"), 1);
        due(text(longest + " ;"), 1);
        Town t = new Town().feed(longest + " ;");
        due(t.ask(x -> x.count(7)), 160);
        refuses(t, FULL, x -> x.feed(1, ' ', 0, 0, 0, 0), x -> x.feed(5, ' ', ' ', ' ', ' ', ' '));
        due(t.ask(x -> x.text()), 1);
        // The text's size, where it ends too early, may be all 160.
        fault(160, longest + "+1");
        fault(160, longest + "  ");
        fault(159, longest + "+x");
        fault(159, longest + "1)");
        fault(160, filled("", " ", 160));
        fault(0, filled("", "a", 160));
        fault(0, filled("", "(", 160));
        fault(19, filled(START, "7", 160));
        fault(24, filled(START, "(", 160));
    }

    private static void tokens() {
        says(0, "TOKENS, each as long as can be: WORDS (as many letters a .. z as stand there), NUMBERS (as many digits as stand there; "
            + "more than 4 are too long), SIGNS ( ) ; + - * < = ;");
        due(text("walk base;carry more;may not street;"), 1);
        due(text("walk(base);carry(1)or(2);may(not(3)and(4));"), 1);
        fault(0, "walkbase;");
        fault(0, "walkz 1;");
        fault(0, "zwalk 1;");
        fault(5, "walk basez;");
        fault(5, "walk abase;");
        fault(0, "walknot 1;");
        fault(5, "walk notbase;");
        fault(7, "walk 1 orbase;");
        fault(5, "walk basemore;");
        fault(5, "walk bas e;");
        fault(0, "wal k 1;");
        due(text("walk 9999;carry 0000;may 0;"), 1);
        fault(5, "walk 10000;");
        fault(5, "walk 00000;");
        fault(5, "walk 12345");
        fault(7, "walk 1 2345;");
        fault(8, "walk 123x;");
        fault(9, "walk 9999a");
        fault(6, "walk 1base;");
        fault(9, "walk base1;");
        due(text("walk 1or 2;carry 1and 2;may 1or 2and 3;"), 1);
        fault(7, "walk 1<<2;");
        fault(7, "walk 1<=2;");
        fault(7, "walk 1==2;");
        fault(7, "walk 1**2;");
        fault(6, "walk (;");
        due(text("walk 1--2;carry 1*-2;may 1<-2;"), 1);
    }

    private static void blanks() {
        says(0, "blanks (32, 10) may stand between.");
        due(text("\n  walk\n1\n\n;\ncarry  (  1\n)  ;may\n-\n1 ; \n"), 1);
        due(text("walk 1;carry 1;may 1;"), 1);
        due(text("walk-1;carry-1;may-1;"), 1);
        for (int b : new int[] {0, 9, 11, 12, 13, 31, 33, 160, 255}) {
            char odd = (char) b;
            fault(4, "walk" + odd + "1;");
            fault(0, odd + "walk 1;");
            fault(6, "walk 1" + odd + ";");
            fault(21, "walk 1;carry 1;may 1;" + odd);
        }
    }

    private static void grammar() {
        says(0, "TEXT: walk E ; carry E ; may E ; E: AND { or AND }. AND: NOT { and NOT }. NOT: not NOT, or SUM, perhaps < or = and a SUM. "
            + "SUM: TERM { + or - TERM }. TERM: ONE { * ONE }. ONE: a NUMBER, a NAME, - ONE, ( E ). NAMES: base more hour from to street.");
        for (Object[] place : PLACES) {
            String ahead = place[0] + " ";
            boolean ones = (Boolean) place[3];
            for (String key : KEYS) stands(ahead, key, (" " + place[1] + " ").contains(" " + key + " "));
            for (String name : NAMES) stands(ahead, name, ones);
            for (String number : new String[] {"0", "7", "9999", "0000"}) stands(ahead, number, ones);
            for (int i = 0; i < SIGNS.length(); i++) {
                String sign = SIGNS.substring(i, i + 1);
                stands(ahead, sign, ((String) place[2]).contains(sign));
            }
        }
    }

    /** Where a token can stand, the text ends too early; but the last ; ends it well. */
    private static void stands(String ahead, String token, boolean can) {
        boolean whole = can && token.equals(";") && ahead.contains("may");
        long want = whole ? 1 : can ? -100 - ahead.length() - token.length() : -100 - ahead.length();
        long got = text(ahead + token);
        rows++;
        if (got != want) fail("\"" + ahead + token + "\" answered " + got + ", due is " + want);
    }

    private static void faults() {
        says(0, "FAULT: the place of the first byte of the first TOKEN that can't stand there (the text's size, if it ends too early), also of a byte "
            + "that begins none, of a WORD that is neither KEY nor NAME, a NUMBER that is too long,");
        for (Object[] place : PLACES) {
            String ahead = place[0] + " ";
            for (String bad : new String[] {"a", "z", "x", "wal", "walks", "nots", "An", "Base", "basee", "12345", "00001", "1234567890", "!", ">"}) {
                stands(ahead, bad, false);
            }
            long size = -100 - ahead.length();
            due(text(ahead), ahead.trim().endsWith("may 1;") ? 1 : size);
            due(text(ahead + "\n "), ahead.trim().endsWith("may 1;") ? 1 : size - 2);
            for (int b = 0; b < 256; b++) {
                char odd = (char) b;
                if (odd == 32 || odd == 10 || odd >= '0' && odd <= '9' || SIGNS.indexOf(odd) >= 0) continue;
                stands(ahead, String.valueOf(odd), false);
            }
        }
        // The first of several; what stands behind it is no matter.
        fault(0, "x 12345 (((((((");
        fault(5, "walk ) x 12345");
        fault(7, "walk 1 1 carry x");
        fault(0, "1");
        fault(0, ";");
        fault(0, "carry 1;walk 1;may 1;");
        fault(7, "walk 1;walk 1;may 1;");
        fault(15, "walk 1;carry 1;carry 1;");
        fault(21, "walk 1;carry 1;may 1;walk 1;");
        fault(21, "walk 1;carry 1;may 1;;");
        // A fault empties the tape.
        row(new Town().feed("walk x"), to(-105, 0, -100), x -> x.text(), x -> x.count(7), x -> x.text());
    }

    /** All ways to have so many open, one in the other. */
    private static List<String> opened(int many) {
        List<String> all = new ArrayList<>();
        if (many == 0) {
            all.add("");
            return all;
        }
        for (String ahead : opened(many - 1)) {
            all.add(ahead + "( ");
            all.add(ahead + "- ");
            if (!ahead.endsWith("- ")) all.add(ahead + "not ");
        }
        return all;
    }

    private static void open() {
        says(0, "a ( , a not, a - ahead of a ONE while 5 of these are open");
        for (int many = 0; many <= 5; many++) {
            for (String ahead : opened(many)) {
                String text = START + ahead;
                stands(text, "(", many < 5);
                stands(text, "-", many < 5);
                stands(text, "not", many < 5 && !ahead.endsWith("- "));
                stands(text, "1", true);
                StringBuilder close = new StringBuilder(text).append('1');
                for (int i = 0; i < ahead.length(); i++) if (ahead.charAt(i) == '(') close.append(')');
                due(text(close + ";"), 1);
            }
        }
        due(text("walk (((((1)))));carry -----1;may not not not not not 1;"), 1);
        fault(10, "walk ((((((1))))));");
        fault(18, "walk 1;carry -(-(-(1)));");
    }

    private static void ends() {
        says(0, "(a ( till its ) , not and - till what they belong to ends).");
        String five = "(((((1)))))";
        due(text(START + five + "*" + five + ";"), 1);
        due(text(START + "-1*" + five + "+" + five + ";"), 1);
        due(text(START + "-(-1)-" + five + ";"), 1);
        due(text(START + "not 1 and " + five + " or " + five + ";"), 1);
        due(text(START + "not not 1=-1 or -----1;"), 1);
        due(text(START + "----1<-----1;"), 1);
        due(text(START + "(not 1)=" + five + ";"), 1);
        due(text(START + "((((1)-(1)*(1))));"), 1);
        // 1 - ONE has no - that is open.
        due(text(START + "1-" + five + "-1;"), 1);
        due(text(START + "1-----1-----1;"), 1);
        // The not goes on behind <, =, +, *, and so does a ( .
        int at = START.length();
        fault(at + 10, START + "not 1<" + five + ";");
        fault(at + 10, START + "not 1=" + five + ";");
        fault(at + 10, START + "not 1+" + five + ";");
        fault(at + 10, START + "not 1*" + five + ";");
        fault(at + 12, START + "not (1)*" + five + ";");
        fault(at + 7, START + "(1+" + five + ";");
        fault(at + 7, START + "(1<-((((1)))));");
        fault(at + 10, START + "(1 or ---((1)));");
    }

    /** Whether an E is not 0, asked of street 3 from corner 4 to 7, base 9, more 20, at hour 8. */
    private static void holds(long want, String e) {
        Town t = new Town().streets(1, 1, 1).street(0, 47, 9, 20).law("walk 1;carry 1;may " + e + ";");
        long got = t.ask(x -> x.asks(3, 4, 0));
        rows++;
        if (got != want) fail(e + " answered " + got + ", due is " + want);
    }

    private static void values() {
        says(0, "An E is an int (32 bits, wrapping): of or, and, not, <, = 1 or 0 (what is not 0 is true).");
        for (String yes : new String[] {"1", "2", "-1", "9999", "-9999", "1024*1024*1024*2"}) {
            for (String no : new String[] {"0", "-0", "1-1", "1024*1024*1024*4"}) {
                holds(1, "((" + yes + ") or (" + no + "))=1");
                holds(1, "((" + no + ") or (" + yes + "))=1");
                holds(1, "((" + no + ") or (" + no + "))=0");
                holds(1, "((" + yes + ") and (" + no + "))=0");
                holds(1, "((" + no + ") and (" + yes + "))=0");
                holds(1, "((" + yes + ") and (" + yes + "))=1");
                holds(1, "(not (" + yes + "))=0");
                holds(1, "(not (" + no + "))=1");
            }
        }
        holds(1, "(1<2)=1 and (2<1)=0 and (2<2)=0");
        holds(1, "(1=2)=0 and (2=2)=1 and (0=0)=1");
        holds(1, "(-1<0)=1 and (-2<-1)=1 and (-1<-2)=0");
        holds(1, "(3 or 0)+(5 and 6)+(not 0)+(1<2)+(3=3)=5");
        holds(1, "not 5=0");
        holds(0, "(not 5)=1");
        holds(1, "1 or 1 and 0");
        holds(0, "(1 or 1) and 0");
        holds(1, "10-3-2=5 and 2+3*4=14 and -2*3=-6 and 2*-3=0-6");
        holds(1, "--5=5 and -(2-3)=1");
    }

    private static void wrapping() {
        String least = "1024*1024*1024*2", most = least + "-1";
        holds(1, least + "<0");
        holds(1, "0<" + most);
        holds(1, most + "+1<0");
        holds(1, most + "+1=" + least);
        holds(1, "-(" + least + ")=" + least);
        holds(1, "0-" + least + "=" + least);
        holds(1, least + "+" + least + "=0");
        holds(1, "1024*1024*1024*4=0");
        holds(1, "9999*9999*9999=" + wrapped(9999L * 9999 * 9999));
        holds(1, "9999*9999*22=" + wrapped(9999L * 9999 * 22));
        holds(1, "9999*9999*21=" + wrapped(9999L * 9999 * 21));
        holds(1, "(" + most + ")*(" + most + ")=1");
        holds(1, "(" + least + ")*-1=" + least);
        // Less is not told by taking one from the other.
        holds(1, least + "<1");
        holds(0, "1<" + least);
        holds(1, "0-2<" + most);
        holds(0, most + "<0-2");
        holds(0, least + "=" + most);
    }

    /** A number of 32 bits as sums and products of numbers of four digits. */
    private static String wrapped(long value) {
        int v = (int) value;
        boolean below = v < 0;
        long size = Math.abs((long) v);
        String told = size / 100000000 + "*1000*1000*100+" + size / 10000 % 10000 + "*1000*10+" + size % 10000;
        return below ? "-(" + told + ")" : told;
    }

    private static void numbers() {
        says(0, "TEXTS are numbered from 0 on, 6 at most; TEXT 0, at first, and THE LAW: walk base ; carry base + more ; may 1 ;");
        Town t = new Town().street(0, 1, 7, 5);
        same(asks(t, 0, 0), 1, 1, 7, 12);
        row(t, to(1, 0, 0), x -> x.count(5), x -> x.count(6), x -> x.force(0));
        for (int i = 1; i < 6; i++) {
            due(t.text("walk " + i + ";carry 1;may 1;"), i);
            int t0 = i;
            row(t, to(i + 1, i - 1, i), x -> x.count(5), x -> x.force(t0), x -> x.asks(0, 0, 2));
        }
        t.feed("walk 6;carry 1;may 1;");
        refuses(t, FULL, x -> x.text(), x -> x.text());
        refuses(t, BAD, x -> x.force(6), x -> x.force(-1));
        row(t, to(6, 5, 7), x -> x.count(5), x -> x.force(0), x -> x.asks(0, 0, 2));
    }

    private static void names() {
        says(0, "Of a STREET from a CORNER: base, more: its own; hour: THE HOUR; from: that CORNER; to: the other one of it; street: its number.");
        Town t = new Town();
        for (int s = 0; s < 11; s++) t.street(1, 12, 50, 60);
        t.street(0, 80, 99, 0).set(0, 3);
        t.law("walk base;carry more;may street=11;");
        same(asks(t, 11, 8), 1, 1, 99, 1);
        same(asks(t, 10, 1), 0, 0, 50, 60);
        t.law("walk from+10;carry to+20;may from=8 and to=0;");
        same(asks(t, 11, 8), 1, 1, 18, 20);
        same(asks(t, 11, 0), 0, 0, 10, 28);
        t.law("walk hour+1;carry street+1;may hour=23;").set(1, 23);
        same(asks(t, 11, 0), 1, 1, 24, 12);
        same(asks(t.set(1, 0), 11, 0), 0, 0, 1, 12);
    }
}
