import java.util.Random;

/** Makes texts of both languages by chance, most of them without fault. */
final class Texts {
    private final Random chance;

    Texts(Random chance) {
        this.chance = chance;
    }

    private String one(String... of) {
        return of[chance.nextInt(of.length)];
    }

    /** A law by which some quarrel, some do not, and some are barred. */
    String lively() {
        StringBuilder b = new StringBuilder();
        switch (chance.nextInt(4)) {
            case 0: b.append("quarrels 0 ; quarrels ").append(1 + chance.nextInt(9)).append(" + temper if [ temper + ire ] % ").append(2 + chance.nextInt(3)).append(" = 0"); break;
            case 1: b.append("quarrels temper * ire - ").append(5 + chance.nextInt(30)); break;
            case 2: b.append("quarrels temper - ire + ").append(chance.nextInt(4)).append(" ; quarrels ire - temper if realm = land"); break;
            default: b.append("quarrels temper * ").append(2 + chance.nextInt(8)).append(" % [ ire + 1 ] - ").append(chance.nextInt(4)); break;
        }
        if (chance.nextInt(3) == 0) b.append(" ; bars if [ temper * 3 + ire ] % ").append(3 + chance.nextInt(4)).append(" = 1");
        if (chance.nextInt(2) == 0) b.append(" ; dries worth % 2");
        if (chance.nextInt(3) == 0) b.append(" ; counts worth % ").append(2 + chance.nextInt(9)).append(" if realm > ").append(chance.nextInt(3));
        return spaced(b.toString());
    }

    String law() {
        if (chance.nextBoolean()) return lively();
        StringBuilder b = new StringBuilder();
        int n = 1 + chance.nextInt(chance.nextInt(8) == 0 ? 13 : 5);
        for (int i = 0; i < n; i++) {
            if (i > 0) b.append(" ; ");
            String verb = one("quarrels", "quarrels", "dries", "counts", "bars");
            b.append(verb);
            if (!verb.equals("bars")) b.append(' ').append(sum(false, 2));
            if (verb.equals("bars") ? chance.nextInt(8) > 0 : chance.nextBoolean()) b.append(" if ").append(test(false, 2));
        }
        return spaced(b.toString());
    }

    String orders() {
        StringBuilder b = new StringBuilder();
        int n = 1 + chance.nextInt(chance.nextInt(8) == 0 ? 13 : 5);
        for (int i = 0; i < n; i++) {
            if (i > 0) b.append(" ; ");
            String verb = one("stick", "stick", "stick", "peel", "cancel", "pass");
            b.append(verb);
            if (!verb.equals("pass")) b.append(' ').append(verb.equals("stick") ? target(10) : target(3));
            if (verb.equals("stick")) b.append(" on ").append(target(3));
            if (chance.nextInt(4) == 0) b.append(" times ").append(chance.nextInt(12) == 0 ? chance.nextInt(23) : 1 + chance.nextInt(4));
            if (chance.nextInt(3) > 0) b.append(" if ").append(guard(verb));
        }
        return spaced(b.toString());
    }

    /** A test that keeps the deed from being refused too often. */
    private String guard(String verb) {
        if (chance.nextInt(3) == 0) return test(true, 2);
        int l = chance.nextInt(3);
        switch (verb) {
            case "peel": return "quarrel " + l + " > " + chance.nextInt(4);
            case "cancel": return "paid " + l + " > " + chance.nextInt(20);
            case "pass": return "day < " + chance.nextInt(8);
            default: return "spot " + chance.nextInt(10) + " = 0 - 1";
        }
    }

    private String target(int most) {
        return chance.nextInt(5) == 0 ? sum(true, 1) : Integer.toString(chance.nextInt(most));
    }

    private String part(boolean orders, int depth) {
        int c = chance.nextInt(10);
        if (depth > 0 && c == 0) return "[ " + sum(orders, depth - 1) + " ]";
        if (c < 4) return chance.nextInt(12) == 0 ? Integer.toString(990 + chance.nextInt(12)) : Integer.toString(chance.nextInt(12));
        if (!orders) return one("temper", "ire", "realm", "land", "worth", "glue", "day", "mood");
        switch (chance.nextInt(7)) {
            case 0: return "day";
            case 1: return "done";
            case 2: return "latest";
            case 3: return "free";
            case 4: return "paid " + chance.nextInt(3);
            case 5: return "quarrel " + chance.nextInt(3);
            default: return "spot " + chance.nextInt(10);
        }
    }

    private String sum(boolean orders, int depth) {
        StringBuilder b = new StringBuilder(part(orders, depth));
        while (chance.nextInt(5) < 2) b.append(' ').append(one("+", "-", "*", "/", "%", "*")).append(' ').append(part(orders, depth));
        return b.toString();
    }

    private String test(boolean orders, int depth) {
        StringBuilder b = new StringBuilder(plain(orders, depth));
        while (chance.nextInt(3) == 0) b.append(' ').append(one("and", "or")).append(' ').append(plain(orders, depth));
        return b.toString();
    }

    private String plain(boolean orders, int depth) {
        int c = chance.nextInt(8);
        if (c == 0) return "not " + plain(orders, depth);
        if (c == 1 && depth > 0) return "( " + test(orders, depth - 1) + " )";
        return sum(orders, depth) + " " + one("<", ">", "=") + " " + sum(orders, depth);
    }

    /** Blanks taken out where two tokens stay two, or made more. */
    private String spaced(String text) {
        StringBuilder b = new StringBuilder();
        for (int i = 0; i < text.length(); i++) {
            char c = text.charAt(i);
            if (c != ' ') {
                b.append(c);
                continue;
            }
            char before = i > 0 ? text.charAt(i - 1) : ' ', behind = i + 1 < text.length() ? text.charAt(i + 1) : ' ';
            boolean needed = kind(before) == kind(behind) && kind(before) != 0;
            if (needed || chance.nextInt(4) > 0) b.append(' ');
            if (chance.nextInt(40) == 0) b.append("  ");
        }
        return b.toString();
    }

    private static int kind(char c) {
        return c >= 'a' && c <= 'z' ? 1 : c >= '0' && c <= '9' ? 2 : 0;
    }

    /** The text with something in it changed. */
    String spoilt(String text) {
        StringBuilder b = new StringBuilder(text);
        int times = 1 + chance.nextInt(2);
        for (int i = 0; i < times && b.length() > 0; i++) {
            int at = chance.nextInt(b.length());
            switch (chance.nextInt(6)) {
                case 0: b.deleteCharAt(at); break;
                case 1: b.setLength(at); break;
                case 2: b.insert(at, one(" ", ";", "(", ")", "[", "]", "=", "+", "0", "9", "x", "Z", "\t", "\u00e9", " not ", " if ", " and ")); break;
                case 3: b.setCharAt(at, (char) chance.nextInt(256)); break;
                case 4: b.insert(at, one(" not not ", " times 3 ", " on ", " or ", " paid ", " spot 7 ", " temper ")); break;
                default: b.append(one(";", " if", " times 21", " 1", " ", "  ", ";pass", ";bars", " and 1 = 1")); break;
            }
        }
        return b.toString();
    }

    /** Many of one thing, to go beyond the limits. */
    String crowded(boolean orders) {
        StringBuilder b = new StringBuilder();
        String verb = orders ? one("peel", "cancel") : one("quarrels", "counts", "dries");
        String word = orders ? one("1", "day", "free") : one("1", "day", "ire");
        int n;
        switch (chance.nextInt(6)) {
            case 0:
                n = 47 + chance.nextInt(6);
                b.append(verb).append(' ').append(word);
                for (int i = 1; i < n; i++) b.append(one("+", "-")).append(word);
                return b.toString();
            case 1:
                n = 6 + chance.nextInt(5);
                b.append(verb).append(' ');
                for (int i = 0; i < n; i++) b.append('[');
                b.append('1');
                for (int i = 0; i < n; i++) b.append(']');
                return b.toString();
            case 2:
                n = 3 + chance.nextInt(4);
                b.append(verb).append(" 1 if ");
                for (int i = 0; i < n; i++) b.append(one("(", "not("));
                int m = 2 + chance.nextInt(5);
                for (int i = 0; i < m; i++) b.append('[');
                b.append('1');
                for (int i = 0; i < m; i++) b.append(']');
                b.append("<2");
                for (int i = 0; i < n; i++) b.append(')');
                return b.toString();
            case 3:
                n = 10 + chance.nextInt(5);
                for (int i = 0; i < n; i++) b.append(i > 0 ? ";" : "").append(orders ? "pass" : "bars");
                if (chance.nextInt(3) == 0) b.append(";");
                return b.toString();
            case 4:
                n = chance.nextInt(60);
                b.append(verb).append(" 1 if ");
                for (int i = 0; i < n; i++) b.append("not ");
                return b.append("1=1").toString();
            default:
                // ors and ands that must not be asked to the end
                b.append(verb).append(" 1 if 1=1 or 1/0=1;").append(verb).append(" 2 if not(1=2 and 1%0=1) and 1000*1000*1000=1000*1000*1000;");
                b.append(verb).append(" 0 if 1000*1000*1000+1>0 or 1=1");
                return b.toString();
        }
    }
}
