import java.util.ArrayDeque;
import java.util.ArrayList;
import java.util.Deque;
import java.util.List;
import java.util.Set;

/**
 * A text read with a stack of what is still awaited, and valued by cutting its tokens apart at the
 * operator that binds least. Shares no line with the class it is held against.
 */
final class PlainText {
    static final Set<String> KEYS = Set.of("walk", "carry", "may", "or", "and", "not");
    static final List<String> NAMES = List.of("base", "more", "hour", "from", "to", "street");

    int fault = -1;
    List<List<String>> parts = new ArrayList<>();

    private int open = 0;
    private final Deque<String> awaited = new ArrayDeque<>();

    PlainText(List<Integer> bytes) {
        await("walk", "E", ";", "carry", "E", ";", "may", "E", ";");
        int i = 0;
        List<String> part = new ArrayList<>();
        while (i < bytes.size()) {
            int b = bytes.get(i);
            if (b == 32 || b == 10) {
                i++;
                continue;
            }
            int end = i + 1;
            if (letter(b)) while (end < bytes.size() && letter(bytes.get(end))) end++;
            if (digit(b)) while (end < bytes.size() && digit(bytes.get(end))) end++;
            StringBuilder token = new StringBuilder();
            for (int k = i; k < end; k++) token.append((char) (int) bytes.get(k));
            if (!takes(token.toString())) {
                fault = i;
                return;
            }
            String t = token.toString();
            if (t.equals(";")) {
                parts.add(part);
                part = new ArrayList<>();
            } else if (!Set.of("walk", "carry", "may").contains(t)) {
                part.add(t);
            }
            i = end;
        }
        if (!awaited.isEmpty()) fault = bytes.size();
    }

    private static boolean letter(int b) {
        return b >= 97 && b <= 122;
    }

    private static boolean digit(int b) {
        return b >= 48 && b <= 57;
    }

    private void await(String... row) {
        for (int i = row.length - 1; i >= 0; i--) awaited.push(row[i]);
    }

    private boolean takes(String token) {
        boolean number = digit(token.charAt(0));
        boolean name = NAMES.contains(token);
        if (number && token.length() > 4) return false;
        if (letter(token.charAt(0)) && !name && !KEYS.contains(token)) return false;
        if (!number && !name && !KEYS.contains(token) && "();+-*<=".indexOf(token) < 0) return false;
        while (!awaited.isEmpty()) {
            String next = awaited.pop();
            switch (next) {
                case "E": await("AND", "or.."); break;
                case "or..": if (token.equals("or")) { await("AND", "or.."); return true; } break;
                case "AND": await("NOT", "and.."); break;
                case "and..": if (token.equals("and")) { await("NOT", "and.."); return true; } break;
                case "NOT":
                    if (token.equals("not")) {
                        await("NOT", "shut");
                        return ++open <= 5;
                    }
                    await("SUM", "cmp?");
                    break;
                case "cmp?": if (token.equals("<") || token.equals("=")) { await("SUM"); return true; } break;
                case "SUM": await("TERM", "sum.."); break;
                case "sum..": if (token.equals("+") || token.equals("-")) { await("TERM", "sum.."); return true; } break;
                case "TERM": await("ONE", "times.."); break;
                case "times..": if (token.equals("*")) { await("ONE", "times.."); return true; } break;
                case "ONE":
                    if (number || name) return true;
                    if (token.equals("-")) {
                        await("ONE", "shut");
                        return ++open <= 5;
                    }
                    if (token.equals("(")) {
                        await("E", ")", "shut");
                        return ++open <= 5;
                    }
                    return false;
                case "shut": open--; break;
                default: return token.equals(next);
            }
        }
        return false;
    }

    /** The place of the last of some operators that stands in no bracket, behind an operand. */
    private static int last(List<String> t, String... operators) {
        int depth = 0;
        for (int i = t.size() - 1; i > 0; i--) {
            String s = t.get(i);
            if (s.equals(")")) depth++;
            if (s.equals("(")) depth--;
            if (depth != 0 || !List.of(operators).contains(s)) continue;
            String ahead = t.get(i - 1);
            if (ahead.equals(")") || digit(ahead.charAt(0)) || NAMES.contains(ahead)) return i;
        }
        return -1;
    }

    static int value(List<String> t, int[] names) {
        int i;
        if ((i = last(t, "or")) > 0) return value(left(t, i), names) != 0 | value(right(t, i), names) != 0 ? 1 : 0;
        if ((i = last(t, "and")) > 0) return value(left(t, i), names) != 0 & value(right(t, i), names) != 0 ? 1 : 0;
        if (t.get(0).equals("not")) return value(right(t, 0), names) == 0 ? 1 : 0;
        if ((i = last(t, "<", "=")) > 0) {
            int a = value(left(t, i), names), b = value(right(t, i), names);
            return (t.get(i).equals("<") ? a < b : a == b) ? 1 : 0;
        }
        if ((i = last(t, "+", "-")) > 0) {
            int a = value(left(t, i), names), b = value(right(t, i), names);
            return t.get(i).equals("+") ? a + b : a - b;
        }
        if ((i = last(t, "*")) > 0) return value(left(t, i), names) * value(right(t, i), names);
        if (t.get(0).equals("-")) return -value(right(t, 0), names);
        if (t.get(0).equals("(")) return value(t.subList(1, t.size() - 1), names);
        return NAMES.contains(t.get(0)) ? names[NAMES.indexOf(t.get(0))] : Integer.parseInt(t.get(0));
    }

    private static List<String> left(List<String> t, int i) {
        return t.subList(0, i);
    }

    private static List<String> right(List<String> t, int i) {
        return t.subList(i + 1, t.size());
    }
}
