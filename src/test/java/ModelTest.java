import java.util.ArrayList;
import java.util.Arrays;
import java.util.List;
import java.util.Random;

/** Runs of calls by chance on the class and on the model; they must answer alike. */
public final class ModelTest {
    private static final int MOST_CALLS = 512;

    private final Random chance;
    private final Texts texts;
    private final StampQuarrels program = new StampQuarrels();
    private final Model model = new Model();
    private final List<String> log = new ArrayList<>();
    private int calls = 0;

    private ModelTest(long seed) {
        chance = new Random(seed);
        texts = new Texts(chance);
    }

    public static void main(String[] args) {
        int runs = args.length > 0 ? Integer.parseInt(args[0]) : 700;
        long from = args.length > 1 ? Long.parseLong(args[1]) : 1;
        for (long seed = from; seed < from + runs; seed++) {
            ModelTest test = new ModelTest(seed);
            if (!test.run()) {
                System.out.println("seed " + seed);
                System.exit(1);
            }
        }
        System.out.println(runs + " runs answered as the model");
    }

    private boolean run() {
        int stamps = chance.nextInt(8) == 0 ? chance.nextInt(11) : 6 + chance.nextInt(5), letters = chance.nextInt(8) == 0 ? chance.nextInt(4) : 3;
        int worths = 1 + chance.nextInt(20), realms = 1 + chance.nextInt(6);
        for (int i = 0; i < stamps; i++) {
            if (!same("stamp", 1 + chance.nextInt(worths), chance.nextInt(realms), chance.nextInt(10), chance.nextInt(4) == 0 ? chance.nextInt(10) : 9)) return false;
        }
        for (int i = 0; i < letters; i++) if (!same("letter", chance.nextInt(chance.nextInt(3) == 0 ? 61 : 25))) return false;
        int laws = chance.nextInt(5);
        for (int i = 0; i < laws; i++) {
            if (!write(chance.nextInt(4) == 0 ? texts.law() : texts.lively()) || !lawAndForce()) return false;
        }
        // to go back to, when all has dried and been cancelled
        if (!same("image", 0)) return false;
        while (calls < MOST_CALLS) if (!step()) return false;
        return true;
    }

    private boolean step() {
        if (chance.nextInt(25) == 0) return wild();
        int s = chance.nextInt(12) == 0 ? chance.nextInt(14) - 2 : chance.nextInt(10);
        int l = chance.nextInt(12) == 0 ? chance.nextInt(6) - 1 : chance.nextInt(3);
        switch (chance.nextInt(64)) {
            case 0: return chance.nextInt(9) > 0 || same("stamp", chance.nextInt(23) - 1, chance.nextInt(8) - 1, chance.nextInt(12) - 1, chance.nextInt(12) - 1);
            case 1: return chance.nextInt(9) > 0 || same("letter", chance.nextInt(64) - 1);
            case 2: return same("of", s, chance.nextInt(11) - 1);
            case 3: return same("of", s, 3 + chance.nextInt(6));
            case 4: return same("at", l, chance.nextInt(12) - 1);
            case 5: return same("at", l, 1 + chance.nextInt(4));
            case 6: return same("asks", s, chance.nextInt(12) - 1, chance.nextInt(4) - 1);
            case 7: return chance.nextInt(3) > 0 || same("terms", chance.nextInt(5) - 1, chance.nextInt(chance.nextInt(3) == 0 ? 1002 : 12) - 1);
            case 8: return chance.nextInt(4) > 0 || write(texts.law()) && lawAndForce();
            case 9: return chance.nextInt(2) > 0 || write(chance.nextInt(3) == 0 ? texts.crowded(false) : texts.spoilt(texts.law())) && lawAndForce();
            case 10: return write(texts.orders()) && ordered();
            case 11: return chance.nextInt(2) > 0 || write(chance.nextInt(3) == 0 ? texts.crowded(true) : texts.spoilt(texts.orders())) && ordered();
            case 12: return chance.nextInt(3) > 0 || same("force", chance.nextInt(9) - 2);
            case 13: return scene();
            case 14: return same("stick", s, l);
            case 15: case 16: case 17: case 18: case 19: case 20: case 21: return stickOne();
            case 22: return same("peel", l);
            case 23: return same("cancel", l);
            case 24: return chance.nextInt(2) > 0 || same("pass");
            case 25: return same("undo");
            case 26: case 27: case 28: return same("madeUp", l, chance.nextInt(9) - 1);
            case 29: case 30: case 31: return same("buffers", l, chance.nextInt(7) - 2);
            case 32: case 33: return same("exchanged", l, 0) && same("exchanged", l, 1);
            case 34: return same("exchanged", l, chance.nextInt(4) - 1);
            case 35: return same("pockets", 0);
            case 36: case 37: return same("pockets", chance.nextInt(13) - 1);
            case 38: return hearTrue(s);
            case 39: return chance.nextInt(3) > 0 || same("hear", s, chance.nextInt(23) - 1);
            case 40: return same("forget");
            case 41: return same("canBe");
            case 42: case 43: return same("beside", 0) && same("beside", 1);
            case 44: return same("beside", chance.nextInt(4) - 1);
            case 45: return same("sorts", chance.nextInt(33) - 1, chance.nextInt(4) - 1);
            case 46: return same("sorts", 1 + chance.nextInt(12), chance.nextInt(2));
            case 47: return same("fewest", chance.nextInt(63) - 1, chance.nextInt(1026) - 1);
            case 48: return same("holds", l);
            case 49: return same("kin", s);
            case 50: case 51: return same("compare", chance.nextInt(9) - 2);
            case 52: return same("reigns", chance.nextInt(20) == 0 ? chance.nextInt(3) - 1 : chance.nextInt(1000003), chance.nextInt(63) - 1) && same("drawn", s, 0) && same("drawn", l, 2);
            case 53: case 54: return same("drawn", chance.nextInt(13) - 1, chance.nextInt(5) - 1);
            case 55: return same("image", chance.nextInt(4) == 0 ? chance.nextInt(4) - 1 : 1);
            case 56: return chance.nextInt(2) > 0 || same("back", 0);
            case 57: return chance.nextInt(3) > 0 || same("back", chance.nextInt(5) - 1);
            case 58: case 59: return same("count", chance.nextInt(18) - 1);
            case 60: return same("status");
            case 61: return chance.nextInt(9) > 0 || printRow();
            case 62: return same("misprints") && same("fault") && same("stopped");
            default: return chance.nextInt(5) > 0 || same("end", chance.nextInt(500) - 50);
        }
    }

    /** A call with numbers from far off, and some from near. */
    private boolean wild() {
        String[] names = {"stamp", "of", "letter", "at", "asks", "terms", "feed", "end", "force", "stick", "peel", "cancel", "madeUp", "buffers",
            "exchanged", "pockets", "hear", "beside", "sorts", "fewest", "holds", "kin", "compare", "reigns", "drawn", "image", "back", "count"};
        int[] takes = {4, 2, 1, 2, 3, 2, 5, 1, 1, 2, 1, 1, 2, 2, 2, 1, 2, 1, 2, 2, 1, 1, 1, 2, 2, 1, 1, 1};
        int which = chance.nextInt(names.length);
        int[] a = new int[takes[which]];
        for (int i = 0; i < a.length; i++) {
            int c = chance.nextInt(4);
            int far = c == 0 ? Integer.MIN_VALUE : c == 1 ? Integer.MAX_VALUE : c == 2 ? 1 << chance.nextInt(32) : chance.nextInt();
            a[i] = chance.nextInt(3) == 0 ? chance.nextInt(5) - 1 : far + chance.nextInt(7) - 3;
        }
        return same(names[which], a);
    }

    /** Begins anew, with a few on one letter, and asks for all plans. */
    private boolean scene() {
        if (!same("back", 0) || !same("force", chance.nextInt(1 + (int) model.call("count", 4)) - 1)) return false;
        int l = chance.nextInt(3), n = 2 + chance.nextInt(4);
        for (int i = 0; i < n; i++) if (!same("stick", chance.nextInt(10), l)) return false;
        for (int i = -1; i < 4; i++) if (!same("buffers", l, i)) return false;
        for (int i = 0; i < 2; i++) if (!same("exchanged", l, i)) return false;
        int other = chance.nextInt(3);
        for (int i = 0; i < 7; i++) if (!same("madeUp", other, i)) return false;
        return same("at", l, 3) && same("holds", l) && same("pockets", 0) && same("pockets", chance.nextInt(10));
    }

    /** Sticks a stamp that can most likely be stuck. */
    private boolean stickOne() {
        for (int i = 0; i < 20; i++) {
            int s = chance.nextInt(10);
            if (model.call("of", s, 3) > 0 && model.call("of", s, 4) == -1 && model.call("of", s, 6) == 0) {
                return same("stick", s, chance.nextInt(3));
            }
        }
        return true;
    }

    private boolean lawAndForce() {
        if (!same("law") || !same("fault") || !same("status")) return false;
        int laws = (int) model.call("count", 4);
        return laws == 0 || chance.nextInt(4) == 0 || same("force", laws - 1);
    }

    private boolean ordered() {
        return same("orders") && same("fault") && same("stopped") && same("count", 5) && same("count", 1);
    }

    /** Hears how two that there are quarrel, so that it can be somebody. */
    private boolean hearTrue(int right) {
        int q = (int) model.call("asks", chance.nextInt(10), right, 0);
        return same("hear", right, Math.max(q, 0));
    }

    private boolean printRow() {
        StringBuilder b = new StringBuilder();
        int n = chance.nextInt(20);
        for (int i = 0; i < n; i++) b.append((char) (chance.nextInt(30) == 0 ? chance.nextInt(256) : i % 4 == 0 ? chance.nextInt(22) : chance.nextInt(7)));
        return write(b.toString()) && same("row") && same("misprints");
    }

    private boolean write(String text) {
        log.add("// " + text);
        String cut = text.length() > 400 ? text.substring(0, 400) : text;
        if (!same("end", 0)) return false;
        for (int[] five : Tape.fives(cut)) if (!same("feed", five)) return false;
        return same("end", cut.length());
    }

    private boolean same(String name, int... a) {
        calls++;
        if (calls > MOST_CALLS) return true;
        long want = model.call(name, a);
        long got = Calls.call(program, name, a);
        String line = name + Arrays.toString(a) + " = " + got;
        log.add(line);
        if (want == got) return true;
        for (String x : log) System.out.println(x);
        System.out.println("the model answered " + want);
        return false;
    }
}
