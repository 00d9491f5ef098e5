import java.util.ArrayDeque;
import java.util.ArrayList;
import java.util.Deque;
import java.util.HashMap;
import java.util.List;
import java.util.Map;
import java.util.function.ToLongFunction;

/** Reads a land's text by a table of rules and a stack, to check the class's reader against it. */
final class NaiveText {
    /** What a law is asked with. */
    record Asked(int beck, int flow, int mark, int river, int name, int gifts) { }

    private record Token(String kind, String text, int place) { }

    int fault;
    int faultPlace = -1;
    int lines;
    final List<int[]> becks = new ArrayList<>();   // flow, mark, dry, to
    final List<int[]> rivers = new ArrayList<>();  // room, name, bears
    ToLongFunction<Asked> likes = a -> 1;
    ToLongFunction<Asked> takes = a -> 1;

    private static final Map<String, String> WORDS = new HashMap<>();
    static {
        for (String w : ("land beck flow mark dry to river room name bears likes takes if then else end not and or"
                + " gifts").split(" ")) {
            WORDS.put(w, w);
        }
    }

    NaiveText(byte[] text) {
        List<Token> tokens = split(text);
        check(tokens);
        if (fault == 0) {
            build(tokens);
        }
    }

    private static List<Token> split(byte[] text) {
        List<Token> tokens = new ArrayList<>();
        StringBuilder s = new StringBuilder();
        for (byte b : text) {
            s.append((char) (b & 255));
        }
        int i = 0;
        while (i < s.length()) {
            char c = s.charAt(i);
            int start = i;
            if (c == 10 || c == 32) {
                i++;
                continue;
            }
            if (c >= 'a' && c <= 'z') {
                while (i < s.length() && s.charAt(i) >= 'a' && s.charAt(i) <= 'z') {
                    i++;
                }
                String w = s.substring(start, i);
                tokens.add(new Token(WORDS.getOrDefault(w, "WORD?"), w, start));
            } else if (c >= '0' && c <= '9') {
                while (i < s.length() && s.charAt(i) >= '0' && s.charAt(i) <= '9') {
                    i++;
                }
                tokens.add(new Token(i - start > 3 ? "BAD" : "N", s.substring(start, i), start));
            } else {
                i++;
                tokens.add(new Token(";:+-*()[]=<>".indexOf(c) >= 0 ? "" + c : "BAD", "" + c, start));
            }
        }
        tokens.add(new Token("$", "", s.length()));
        return tokens;
    }

    private Deque<String> stack;
    private int nested;
    private List<int[]> seenBecks;
    private List<int[]> seenRivers;

    private void push(String... parts) {
        for (int i = parts.length - 1; i >= 0; i--) {
            stack.push(parts[i]);
        }
    }

    private void check(List<Token> tokens) {
        stack = new ArrayDeque<>();
        seenBecks = new ArrayList<>();
        seenRivers = new ArrayList<>();
        push("land", ";", "LINES", "$");
        for (Token t : tokens) {
            int wrong = take(t);
            if (wrong != 0) {
                fault = wrong;
                faultPlace = t.place;
                return;
            }
        }
    }

    /** 0 if the token can be taken, else its fault. */
    private int take(Token t) {
        if (t.kind.equals("BAD")) {
            return 1;
        }
        while (true) {
            String top = stack.pop();
            if (top.equals("OUT")) {
                nested--;
                continue;
            }
            if (top.startsWith("N:")) {
                return t.kind.equals("N") ? bounds(top, Integer.parseInt(t.text)) : 2;
            }
            if (!Character.isUpperCase(top.charAt(0))) {
                return top.equals(t.kind) ? 0 : 2;
            }
            Integer answer = rule(top, t.kind);
            if (answer != null) {
                return answer;
            }
        }
    }

    private int bounds(String top, int v) {
        String what = top.substring(2);
        int[] beck = seenBecks.isEmpty() ? null : seenBecks.get(seenBecks.size() - 1);
        int[] river = seenRivers.isEmpty() ? null : seenRivers.get(seenRivers.size() - 1);
        switch (what) {
            case "flow": return v <= 9 ? 0 : 3;
            case "mark": return v <= 9 ? 0 : 3;
            case "dry": return v <= 10 ? 0 : 3;
            case "name": return v <= 9 ? 0 : 3;
            case "bears": return v <= 99 ? 0 : 3;
            case "room":
                river[0] = v;
                return v <= 6 ? 0 : 3;
            default:
                beck[0] = -1;
                if (v >= seenRivers.size()) {
                    return 3;
                }
                int there = 0;
                for (int[] other : seenBecks) {
                    there += other[0] == v ? 1 : 0;
                }
                beck[0] = v;
                return there < seenRivers.get(v)[0] ? 0 : 3;
        }
    }

    /** Null if parts were put on the stack in place of a rule's name, else the answer for the token. */
    private Integer rule(String top, String kind) {
        switch (top) {
            case "LINES":
                if (!kind.equals("$")) {
                    push("LINE", ";", "LINES");
                }
                return null;
            case "LINE":
                return line(kind);
            case "FLAGS":
                if (kind.equals("mark") || kind.equals("dry") || kind.equals("to")) {
                    push(kind, "N:" + kind, "FLAGS");
                }
                return null;
            case "PARTS":
                if (kind.equals("name") || kind.equals("bears")) {
                    push(kind, "N:" + kind, "PARTS");
                }
                return null;
            case "SUM":
                push("TERM", "MORESUM");
                return null;
            case "MORESUM":
                if (kind.equals("+") || kind.equals("-")) {
                    push(kind, "TERM", "MORESUM");
                }
                return null;
            case "TERM":
                push("ATOM", "MORETERM");
                return null;
            case "MORETERM":
                if (kind.equals("*")) {
                    push("*", "ATOM", "MORETERM");
                }
                return null;
            case "TRUTH":
                push("BOTH", "MORETRUTH");
                return null;
            case "MORETRUTH":
                if (kind.equals("or")) {
                    push("or", "BOTH", "MORETRUTH");
                }
                return null;
            case "BOTH":
                push("UNIT", "MOREBOTH");
                return null;
            case "MOREBOTH":
                if (kind.equals("and")) {
                    push("and", "UNIT", "MOREBOTH");
                }
                return null;
            case "COMPARE":
                return "=<>".contains(kind) ? 0 : 2;
            case "UNIT":
                return unit(kind);
            default:
                return atom(kind);
        }
    }

    private Integer line(String kind) {
        switch (kind) {
            case "beck":
                if (seenBecks.size() == 6) {
                    return 4;
                }
                seenBecks.add(new int[] {-1});
                push("flow", "N:flow", "FLAGS");
                return 0;
            case "river":
                if (seenRivers.size() == 4) {
                    return 4;
                }
                seenRivers.add(new int[] {0});
                push("room", "N:room", "PARTS");
                return 0;
            case "likes":
            case "takes":
                push(":", "SUM");
                return 0;
            default:
                return 2;
        }
    }

    private Integer unit(String kind) {
        switch (kind) {
            case "not":
                push("UNIT", "OUT");
                return in();
            case "[":
                push("TRUTH", "]", "OUT");
                return in();
            default:
                push("SUM", "COMPARE", "SUM");
                return null;
        }
    }

    private Integer atom(String kind) {
        switch (kind) {
            case "(":
                push("SUM", ")", "OUT");
                return in();
            case "if":
                push("TRUTH", "then", "SUM", "else", "SUM", "end", "OUT");
                return in();
            case "N":
            case "beck":
            case "flow":
            case "mark":
            case "river":
            case "name":
            case "gifts":
                return 0;
            default:
                return 2;
        }
    }

    private int in() {
        nested++;
        return nested > 6 ? 4 : 0;
    }

    // ---- what a text without a fault tells

    private List<Token> rest;
    private int at;

    private void build(List<Token> tokens) {
        rest = tokens;
        at = 2;
        lines = 1;
        while (!kind().equals("$")) {
            buildLine();
            at++;
            lines++;
        }
    }

    private String kind() {
        return rest.get(at).kind;
    }

    private int number() {
        return Integer.parseInt(rest.get(at++).text);
    }

    private void buildLine() {
        String head = rest.get(at++).kind;
        at++;
        if (head.equals("likes")) {
            likes = sum();
        } else if (head.equals("takes")) {
            takes = sum();
        } else if (head.equals("beck")) {
            int[] b = {number(), 0, 0, -1};
            while (!kind().equals(";")) {
                String w = rest.get(at++).kind;
                b[w.equals("mark") ? 1 : w.equals("dry") ? 2 : 3] = number();
            }
            becks.add(b);
        } else {
            int[] r = {number(), 0, 99};
            while (!kind().equals(";")) {
                String w = rest.get(at++).kind;
                r[w.equals("name") ? 1 : 2] = number();
            }
            rivers.add(r);
        }
    }

    private static long keep(long v) {
        return v > 1000000 ? 1000000 : v < -1000000 ? -1000000 : v;
    }

    private ToLongFunction<Asked> sum() {
        ToLongFunction<Asked> left = term();
        while (kind().equals("+") || kind().equals("-")) {
            long sign = rest.get(at++).kind.equals("+") ? 1 : -1;
            ToLongFunction<Asked> a = left;
            ToLongFunction<Asked> b = term();
            left = q -> keep(a.applyAsLong(q) + sign * b.applyAsLong(q));
        }
        return left;
    }

    private ToLongFunction<Asked> term() {
        ToLongFunction<Asked> left = value();
        while (kind().equals("*")) {
            at++;
            ToLongFunction<Asked> a = left;
            ToLongFunction<Asked> b = value();
            left = q -> keep(a.applyAsLong(q) * b.applyAsLong(q));
        }
        return left;
    }

    private ToLongFunction<Asked> value() {
        Token t = rest.get(at++);
        switch (t.kind) {
            case "N":
                long n = Long.parseLong(t.text);
                return q -> n;
            case "(":
                ToLongFunction<Asked> inner = sum();
                at++;
                return inner;
            case "if":
                ToLongFunction<Asked> when = truth();
                at++;
                ToLongFunction<Asked> then = sum();
                at++;
                ToLongFunction<Asked> other = sum();
                at++;
                return q -> when.applyAsLong(q) != 0 ? then.applyAsLong(q) : other.applyAsLong(q);
            case "beck": return q -> q.beck;
            case "flow": return q -> q.flow;
            case "mark": return q -> q.mark;
            case "river": return q -> q.river;
            case "name": return q -> q.name;
            default: return q -> q.gifts;
        }
    }

    private ToLongFunction<Asked> truth() {
        ToLongFunction<Asked> left = both();
        while (kind().equals("or")) {
            at++;
            ToLongFunction<Asked> a = left;
            ToLongFunction<Asked> b = both();
            left = q -> a.applyAsLong(q) != 0 || b.applyAsLong(q) != 0 ? 1 : 0;
        }
        return left;
    }

    private ToLongFunction<Asked> both() {
        ToLongFunction<Asked> left = one();
        while (kind().equals("and")) {
            at++;
            ToLongFunction<Asked> a = left;
            ToLongFunction<Asked> b = one();
            left = q -> a.applyAsLong(q) != 0 && b.applyAsLong(q) != 0 ? 1 : 0;
        }
        return left;
    }

    private ToLongFunction<Asked> one() {
        if (kind().equals("not")) {
            at++;
            ToLongFunction<Asked> a = one();
            return q -> a.applyAsLong(q) == 0 ? 1 : 0;
        }
        if (kind().equals("[")) {
            at++;
            ToLongFunction<Asked> a = truth();
            at++;
            return a;
        }
        ToLongFunction<Asked> a = sum();
        String sign = rest.get(at++).kind;
        ToLongFunction<Asked> b = sum();
        return q -> {
            long x = a.applyAsLong(q);
            long y = b.applyAsLong(q);
            return (sign.equals("=") ? x == y : sign.equals("<") ? x < y : x > y) ? 1 : 0;
        };
    }
}
