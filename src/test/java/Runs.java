import java.io.IOException;
import java.nio.charset.StandardCharsets;
import java.nio.file.Files;
import java.nio.file.Path;
import java.util.ArrayList;
import java.util.HashMap;
import java.util.List;
import java.util.Map;

/**
 * Reads runs of calls from texts. A line without blanks ahead of it is a run's heading, the lines behind
 * it are its calls:
 *
 * <pre>
 *   stamp 5 0 3 9 = 0        a call and the answer that is due (without =: any)
 *   ! stamp 0 0 0 0 = -1     one that must change nothing (but status and how often calls were REFUSED)
 *   10 x letter 7            ten times
 *   at 0 5..9 = 2 3 -1       one call for each number 5 .. 9, with an answer each, or one for all
 *   law "bars" 2*" ; bars"   the text is put on the empty tape first; so with orders, row, and text alone
 *   use counter              the calls of the heading 'setup counter'
 * </pre>
 */
final class Runs {
    /** One call; want is null if any answer will do. */
    record Step(String line, boolean changesNothing, String name, int[] args, Long want) { }

    record Run(String heading, List<Step> steps) { }

    private final Map<String, List<Step>> setups = new HashMap<>();
    private final List<Run> runs = new ArrayList<>();
    private List<Step> now = new ArrayList<>();

    static List<Run> of(List<Path> files) throws IOException {
        Runs reader = new Runs();
        for (Path file : files) {
            for (String line : Files.readAllLines(file, StandardCharsets.ISO_8859_1)) reader.line(line);
        }
        return reader.runs;
    }

    private void line(String line) {
        if (line.isBlank() || line.startsWith("#")) return;
        if (line.startsWith(" ")) {
            calls(line.strip());
            return;
        }
        now = new ArrayList<>();
        if (line.startsWith("setup ")) setups.put(line.substring(6), now);
        else runs.add(new Run(line, now));
    }

    private void calls(String line) {
        List<String> words = words(line);
        boolean changesNothing = words.get(0).equals("!");
        if (changesNothing) words.remove(0);
        int times = 1;
        if (words.size() > 2 && words.get(1).equals("x")) {
            times = Integer.parseInt(words.get(0));
            words = words.subList(2, words.size());
        }
        int equals = words.indexOf("=");
        List<Long> wants = new ArrayList<>();
        if (equals >= 0) for (String w : words.subList(equals + 1, words.size())) addWants(w, wants);
        if (equals >= 0 && wants.isEmpty()) throw new IllegalArgumentException(line);
        List<String> told = equals >= 0 ? words.subList(0, equals) : words;
        String name = told.get(0);
        if (name.equals("use")) {
            now.addAll(setups.get(told.get(1)));
            return;
        }
        List<int[]> calls = new ArrayList<>();
        StringBuilder text = null;
        List<int[]> args = new ArrayList<>();
        for (String w : told.subList(1, told.size())) {
            if (w.contains("\"")) {
                text = text == null ? new StringBuilder() : text;
                text.append(piece(w));
            } else {
                args.add(numbers(w));
            }
        }
        expand(args, 0, new int[args.size()], calls);
        put(line, changesNothing, name, times, calls, text, wants);
    }

    private static void addWants(String word, List<Long> wants) {
        if (word.contains("..")) for (int n : numbers(word)) wants.add((long) n);
        else wants.add(Long.parseLong(word));
    }

    private void put(String line, boolean changesNothing, String name, int times, List<int[]> calls, StringBuilder text, List<Long> wants) {
        int all = times * calls.size(), at = 0;
        if (wants.size() > 1 && wants.size() != all) throw new IllegalArgumentException(line + ": " + wants.size() + " answers for " + all);
        for (int t = 0; t < times; t++) {
            for (int[] a : calls) {
                if (text != null) onTape(line, text.toString());
                Long want = wants.isEmpty() ? null : wants.get(wants.size() > 1 ? at : 0);
                at++;
                if (!name.equals("text")) now.add(new Step(line, changesNothing, name, a, want));
            }
        }
    }

    private void onTape(String line, String text) {
        now.add(new Step(line, false, "end", new int[] {0}, 0L));
        long length = 0;
        for (int[] five : Tape.fives(text)) {
            length += 20;
            now.add(new Step(line, false, "feed", five, length));
        }
        now.add(new Step(line, false, "end", new int[] {text.length()}, (long) text.length()));
    }

    private static void expand(List<int[]> args, int i, int[] so, List<int[]> out) {
        if (i == args.size()) {
            out.add(so.clone());
            return;
        }
        for (int n : args.get(i)) {
            so[i] = n;
            expand(args, i + 1, so, out);
        }
    }

    private static int[] numbers(String word) {
        int dots = word.indexOf("..");
        if (dots < 0) return new int[] {number(word)};
        int from = number(word.substring(0, dots)), to = number(word.substring(dots + 2));
        int[] out = new int[to - from + 1];
        for (int i = 0; i < out.length; i++) out[i] = from + i;
        return out;
    }

    private static int number(String word) {
        if (word.equals("min")) return Integer.MIN_VALUE;
        if (word.equals("max")) return Integer.MAX_VALUE;
        return word.startsWith("0x") ? Integer.parseUnsignedInt(word.substring(2), 16) : Integer.parseInt(word);
    }

    /** A text in signs of quotation, perhaps with how often it stands there. */
    private static String piece(String word) {
        int quote = word.indexOf('"');
        int times = quote == 0 ? 1 : Integer.parseInt(word.substring(0, quote - 1));
        StringBuilder b = new StringBuilder();
        String inside = word.substring(quote + 1, word.length() - 1);
        for (int i = 0; i < inside.length(); i++) {
            if (inside.startsWith("\\x", i)) {
                b.append((char) Integer.parseInt(inside.substring(i + 2, i + 4), 16));
                i += 3;
            } else {
                b.append(inside.charAt(i));
            }
        }
        return b.toString().repeat(times);
    }

    /** Parted at blanks that stand outside of quotation. */
    private static List<String> words(String line) {
        List<String> out = new ArrayList<>();
        StringBuilder b = new StringBuilder();
        boolean quoted = false;
        for (char c : (line + " ").toCharArray()) {
            if (c == '"') quoted = !quoted;
            if (c == ' ' && !quoted) {
                if (b.length() > 0) out.add(b.toString());
                b.setLength(0);
            } else {
                b.append(c);
            }
        }
        if (quoted) throw new IllegalArgumentException(line);
        return out;
    }
}
