import java.util.ArrayList;
import java.util.HashMap;
import java.util.List;
import java.util.Map;

/**
 * Finds a text's FAULT by the grammar as it stands in the document: all stacks of what may still come
 * are carried from token to token, and the first token that none of them can take is the FAULT.
 */
final class Recognizer {
    /** What may still come, and what has been counted. */
    private record Config(List<String> stack, int parts, int depth, int clauses) { }

    private static final Map<String, String[]> RULES = new HashMap<>();

    static {
        RULES.put("TEST", new String[] {"BOTH ORS"});
        RULES.put("ORS", new String[] {"", "or BOTH ORS"});
        RULES.put("BOTH", new String[] {"PLAIN ANDS"});
        RULES.put("ANDS", new String[] {"", "and PLAIN ANDS"});
        RULES.put("PLAIN", new String[] {"not PLAIN", "( TEST )", "SUM < SUM", "SUM > SUM", "SUM = SUM"});
        RULES.put("SUM", new String[] {"TERM ADDS"});
        RULES.put("ADDS", new String[] {"", "+ TERM ADDS", "- TERM ADDS"});
        RULES.put("TERM", new String[] {"PART MULS"});
        RULES.put("MULS", new String[] {"", "* PART MULS", "/ PART MULS", "% PART MULS"});
        RULES.put("IF", new String[] {"", "if TEST"});
        RULES.put("TIMES", new String[] {"", "times #1-20"});
    }

    private static String[] rule(String symbol, boolean orders) {
        switch (symbol) {
            case "CLAUSE":
                return orders
                    ? new String[] {"stick SUM on SUM TIMES IF", "peel SUM TIMES IF", "cancel SUM TIMES IF", "pass TIMES IF"}
                    : new String[] {"quarrels SUM IF", "dries SUM IF", "counts SUM IF", "bars IF"};
            case "MORE":
                return new String[] {"", "; CLAUSE MORE"};
            case "PART":
                return orders
                    ? new String[] {"!#0-1000", "[ SUM ]", "!day", "!done", "!latest", "!free", "!paid #0-2", "!quarrel #0-2", "!spot #0-9"}
                    : new String[] {"!#0-1000", "[ SUM ]", "!temper", "!ire", "!realm", "!land", "!worth", "!glue", "!day", "!mood"};
            default:
                return RULES.get(symbol);
        }
    }

    /** The place of the FAULT, or -1. */
    static int fault(String text, boolean orders) {
        List<Config> now = new ArrayList<>();
        now.add(new Config(List.of("CLAUSE", "MORE"), 0, 0, 0));
        for (Model.Token t : Model.tokens(text)) {
            List<Config> then = new ArrayList<>();
            for (Config c : now) take(c, t.text(), orders, then);
            if (then.isEmpty()) return t.place();
            now = then;
        }
        for (Config c : now) if (canEnd(c.stack)) return -1;
        return text.length();
    }

    private static boolean canEnd(List<String> stack) {
        for (String s : stack) {
            if (!List.of("MORE", "ORS", "ANDS", "ADDS", "MULS", "IF", "TIMES").contains(s)) return false;
        }
        return true;
    }

    private static void take(Config c, String token, boolean orders, List<Config> out) {
        if (c.stack.isEmpty()) return;
        String top = c.stack.get(0);
        List<String> rest = c.stack.subList(1, c.stack.size());
        String[] alternatives = rule(top, orders);
        if (alternatives != null) {
            int clauses = c.clauses + (top.equals("CLAUSE") ? 1 : 0);
            if (clauses > 12) return;
            for (String alternative : alternatives) {
                List<String> stack = new ArrayList<>();
                for (String s : alternative.split(" ")) if (!s.isEmpty()) stack.add(s);
                // only what begins with this token, or may be nothing, is worth a look
                stack.addAll(rest);
                take(new Config(stack, c.parts, c.depth, clauses), token, orders, out);
            }
            return;
        }
        boolean counted = top.startsWith("!");
        String want = counted ? top.substring(1) : top;
        if (!matches(want, token)) return;
        int parts = c.parts + (counted ? 1 : 0);
        int depth = c.depth + ("([".contains(token) ? 1 : ")]".contains(token) ? -1 : 0);
        if (parts > 50 || depth > 8) return;
        Config next = new Config(new ArrayList<>(rest), parts, depth, c.clauses);
        if (!out.contains(next)) out.add(next);
    }

    private static boolean matches(String want, String token) {
        if (!want.startsWith("#")) return want.equals(token);
        if (!token.matches("[0-9]+")) return false;
        String[] ends = want.substring(1).split("-");
        java.math.BigInteger n = new java.math.BigInteger(token);
        return n.compareTo(new java.math.BigInteger(ends[0])) >= 0 && n.compareTo(new java.math.BigInteger(ends[1])) <= 0;
    }
}
