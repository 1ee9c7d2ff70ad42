import java.nio.file.Files;
import java.nio.file.Path;
import java.util.ArrayList;
import java.util.Arrays;
import java.util.List;
import java.util.Set;
import java.util.stream.Stream;

/**
 * The boundary cases that the document names, a run each, from src/test/edges. Behind each call that must
 * change nothing, and behind each run, all that can be seen is held against an object on which those calls
 * and all mere questions were left out.
 */
public final class EdgesTest {
    private static final int MOST_CALLS = 512;
    private static final Set<String> DEEDS = Set.of("stamp", "letter", "terms", "feed", "end", "row", "law", "orders", "force", "stick",
        "peel", "cancel", "pass", "undo", "hear", "forget", "reigns", "image", "back");
    private static final Set<String> WITHOUT_STATUS = Set.of("feed", "end", "forget");
    private static final int[] REFUSALS = {-1, -2, -3, -5, -6};

    /** An object whose calls are counted. */
    private static final class Desk {
        private final StampQuarrels x = new StampQuarrels();
        private int calls = 0;
        private final List<String> seen = new ArrayList<>();

        long call(String name, int... a) {
            calls++;
            if (calls > MOST_CALLS) throw new IllegalStateException("more than " + MOST_CALLS + " calls");
            return Calls.call(x, name, a);
        }

        long note(String name, int... a) {
            long got = call(name, a);
            seen.add(name + Arrays.toString(a) + " = " + got);
            return got;
        }
    }

    private final Runs.Run run;
    private final List<Runs.Step> all = new ArrayList<>();
    private final List<Runs.Step> bare = new ArrayList<>();
    private final int[] refused = new int[REFUSALS.length];
    private long status = 0;
    private boolean textRefused = false;
    private final List<String> wrong = new ArrayList<>();

    private EdgesTest(Runs.Run run) {
        this.run = run;
    }

    public static void main(String[] args) throws Exception {
        List<Path> files;
        try (Stream<Path> found = Files.list(Path.of("src/test/edges"))) {
            files = found.sorted().toList();
        }
        int bad = 0, calls = 0;
        List<Runs.Run> runs = Runs.of(files);
        for (Runs.Run run : runs) {
            EdgesTest test = new EdgesTest(run);
            test.hold();
            calls += run.steps().size();
            if (test.wrong.isEmpty()) continue;
            bad++;
            System.out.println(run.heading());
            for (String line : test.wrong) System.out.println("    " + line);
        }
        System.out.println(runs.size() + " edges by " + calls + " calls, " + bad + " do not hold");
        if (bad > 0 || runs.isEmpty()) System.exit(1);
    }

    private void hold() {
        Desk desk = new Desk();
        for (Runs.Step s : run.steps()) {
            long got = desk.call(s.name(), s.args());
            if (s.want() != null && got != s.want()) wrong.add(s.line() + ": " + s.name() + Arrays.toString(s.args()) + " answered " + got);
            take(s);
            if (s.changesNothing()) holdTwins(s.line());
            if (!wrong.isEmpty()) return;
        }
        holdTwins("at the end");
    }

    private void take(Runs.Step s) {
        all.add(s);
        boolean told = DEEDS.contains(s.name()) && !WITHOUT_STATUS.contains(s.name());
        if (s.changesNothing()) {
            if (s.want() == null || s.want() >= 0) throw new IllegalArgumentException(run.heading() + ": " + s.line());
            if (told) {
                status = s.want();
                for (int i = 0; i < REFUSALS.length; i++) if (REFUSALS[i] == status) refused[i]++;
            }
            if (s.name().equals("law") || s.name().equals("orders")) {
                textRefused = true;
                bare.add(new Runs.Step(s.line(), false, "end", new int[] {0}, 0L));
            }
        } else if (DEEDS.contains(s.name())) {
            if (told && !s.name().equals("force") && s.want() != null && s.want() < 0) throw new IllegalArgumentException(run.heading() + ": " + s.line());
            if (told) status = 0;
            bare.add(s);
        }
    }

    /** All that can be seen by one object's calls; some of it only by calls that change it. */
    private void holdTwins(String where) {
        for (int way = 0; way < 10; way++) {
            Desk full = replay(all), less = replay(bare);
            if (way == 0) holdStatus(where, full);
            look(full, way);
            look(less, way);
            for (int i = 0; i < full.seen.size() || i < less.seen.size(); i++) {
                String a = i < full.seen.size() ? full.seen.get(i) : "nothing", b = i < less.seen.size() ? less.seen.get(i) : "nothing";
                if (!a.equals(b)) {
                    wrong.add(where + ": " + a + " behind it, else " + b);
                    return;
                }
            }
        }
    }

    private void holdStatus(String where, Desk desk) {
        long got = desk.call("status");
        if (got != status) wrong.add(where + ": status() answered " + got + ", due is " + status);
        for (int i = 0; i < REFUSALS.length; i++) {
            long n = desk.call("count", 7 + i);
            if (n != refused[i]) wrong.add(where + ": count(" + (7 + i) + ") answered " + n + ", due is " + refused[i]);
        }
    }

    private static Desk replay(List<Runs.Step> steps) {
        Desk desk = new Desk();
        for (Runs.Step s : steps) desk.call(s.name(), s.args());
        return desk;
    }

    private void look(Desk desk, int way) {
        switch (way) {
            case 0: face(desk); break;
            case 1: asking(desk); break;
            case 2: plans(desk); break;
            case 3: undoing(desk, false); break;
            case 4: undoing(desk, true); break;
            case 5: if (desk.note("law") != -5) desk.note("fault"); desk.note("count", 4); break;
            case 6: desk.note("orders"); desk.note("fault"); desk.note("stopped"); face(desk); break;
            case 7: desk.note("row"); desk.note("misprints"); face(desk); break;
            default: if (desk.note("back", way - 8) == 0) face(desk); break;
        }
    }

    private void face(Desk desk) {
        int stamps = (int) desk.note("count", 0), letters = (int) desk.note("count", 2);
        for (int what : new int[] {1, 3, 4, 5, 6, 12, 13, 14, 15}) desk.note("count", what);
        for (int s = 0; s < stamps; s++) for (int what = 0; what < 9; what++) desk.note("of", s, what);
        for (int l = 0; l < letters; l++) for (int what = 0; what < 10; what++) desk.note("at", l, what);
        for (int s = 0; s < 10; s++) for (int what = 0; what < 2; what++) desk.note("drawn", s, what);
        for (int l = 0; l < 3; l++) desk.note("drawn", l, 2);
        desk.note("misprints");
        desk.note("canBe");
        if (textRefused) return;
        desk.note("fault");
        desk.note("stopped");
    }

    private static void asking(Desk desk) {
        int stamps = (int) desk.note("count", 0);
        for (int a = 0; a < stamps; a++) for (int b = 0; b < stamps; b++) for (int what = 0; what < 2; what++) desk.note("asks", a, b, what);
        for (int s = 0; s < stamps; s++) desk.note("kin", s);
    }

    private static void plans(Desk desk) {
        for (int what = 0; what < 11; what++) desk.note("pockets", what);
        for (int l = 0; l < 3; l++) {
            desk.note("holds", l);
            for (int what = 0; what < 7; what++) desk.note("madeUp", l, what);
            for (int i = -1; i < 4; i++) desk.note("buffers", l, i);
            for (int what = 0; what < 2; what++) desk.note("exchanged", l, what);
        }
        for (int what = 0; what < 2; what++) {
            desk.note("beside", what);
            desk.note("sorts", 5, what);
        }
        for (int fee = 1; fee <= 60; fee += 7) desk.note("fewest", fee, 1023);
        for (int law = -1; law < 6; law++) desk.note("compare", law);
    }

    private static void undoing(Desk desk, boolean glue) {
        for (int i = 0; i < 17; i++) {
            if (desk.note("undo") < 0) return;
            if (glue) {
                for (int s = 0; s < 10; s++) desk.note("of", s, 3);
                continue;
            }
            desk.note("count", 13);
            for (int l = 0; l < 3; l++) for (int what = 4; what < 10; what++) desk.note("at", l, what);
        }
    }
}
