import java.util.ArrayDeque;
import java.util.ArrayList;
import java.util.Arrays;
import java.util.Deque;
import java.util.LinkedHashSet;
import java.util.List;
import java.util.Set;

/**
 * The document once more, written as plainly as can be and by other ways than the class: texts are
 * read by sets of stacks and by splitting, plans by trying everything. Tests hold the class against it.
 */
final class Model {
    static final class Broken extends Exception {
        private static final long serialVersionUID = 1L;
    }

    static final class Stamp {
        int worth, realm, temper, glue, where = -1;

        Stamp copy() {
            Stamp s = new Stamp();
            s.worth = worth; s.realm = realm; s.temper = temper; s.glue = glue; s.where = where;
            return s;
        }
    }

    static final class Letter {
        int fee, late;
        List<Integer> row = new ArrayList<>();

        Letter copy() {
            Letter l = new Letter();
            l.fee = fee; l.late = late; l.row = new ArrayList<>(row);
            return l;
        }
    }

    /** A token with its place. */
    record Token(String text, int place) { }

    /** A clause of either language, as lists of tokens. */
    record Clause(String verb, List<Token> first, List<Token> second, int times, List<Token> test) { }

    interface Words {
        long value(List<Token> word);
    }

    static final class State {
        List<Stamp> stamps = new ArrayList<>();
        List<Letter> letters = new ArrayList<>();
        List<int[]> heard = new ArrayList<>();
        List<List<Clause>> laws = new ArrayList<>();
        int force = -1, day = 0, rain = 1, mood = 0;

        State copy() {
            State s = new State();
            for (Stamp x : stamps) s.stamps.add(x.copy());
            for (Letter x : letters) s.letters.add(x.copy());
            s.heard.addAll(heard);
            s.laws.addAll(laws);
            s.force = force; s.day = day; s.rain = rain; s.mood = mood;
            return s;
        }
    }

    record Done(int deed, State ahead) { }

    State st = new State();
    Deque<Done> undos = new ArrayDeque<>();
    List<Integer> tape = new ArrayList<>();
    int fault = -1, misprints = 0, stopped = -1, status = 0;
    State latestReigns = null;
    State[] images = new State[2];
    int[] refusals = new int[7];

    // ------------------------------------------------------------ calls

    long call(String name, int... a) {
        switch (name) {
            case "stamp": return said(stamp(a[0], a[1], a[2], a[3]), true);
            case "of": return of(a[0], a[1]);
            case "letter": return said(letter(a[0]), true);
            case "at": return at(a[0], a[1]);
            case "asks": return asks(a[0], a[1], a[2]);
            case "terms": return said(terms(a[0], a[1]), true);
            case "feed": return feed(a);
            case "end": return end(a[0]);
            case "row": return said(row(), true);
            case "misprints": return misprints;
            case "law": return said(law(), true);
            case "orders": return said(orders(), true);
            case "fault": return fault;
            case "stopped": return stopped;
            case "force": {
                if (a[0] < -1 || a[0] >= st.laws.size()) return said(-2, true);
                int was = st.force;
                st.force = a[0];
                return said(was, false);
            }
            case "stick": return said(deed(0, a[0], a[1]), true);
            case "peel": return said(deed(1, a[0], 0), true);
            case "cancel": return said(deed(2, a[0], 0), true);
            case "pass": return said(deed(3, 0, 0), true);
            case "undo": return said(undo(), true);
            case "madeUp": return madeUp(a[0], a[1]);
            case "buffers": return buffers(a[0], a[1]);
            case "exchanged": return exchanged(a[0], a[1]);
            case "pockets": return pockets(a[0]);
            case "hear": return said(hear(a[0], a[1]), true);
            case "forget": { int n = st.heard.size(); st.heard.clear(); return n; }
            case "canBe": { int b = 0; for (int s : canBe()) b |= 1 << s; return b; }
            case "beside": return beside(a[0]);
            case "sorts": return sorts(a[0], a[1]);
            case "fewest": return fewest(a[0], a[1]);
            case "holds": return holds(a[0]);
            case "kin": return kin(a[0]);
            case "compare": return compare(a[0]);
            case "reigns": return said(reigns(a[0], a[1]), true);
            case "drawn": return drawn(a[0], a[1]);
            case "image": {
                if (a[0] != 0 && a[0] != 1) return said(-1, true);
                images[a[0]] = st.copy();
                return said(0, true);
            }
            case "back": {
                if (a[0] != 0 && a[0] != 1) return said(-1, true);
                if (images[a[0]] == null) return said(-2, true);
                st = images[a[0]].copy();
                undos.clear();
                return said(0, true);
            }
            case "count": return count(a[0]);
            case "status": return status;
            default: throw new IllegalArgumentException(name);
        }
    }

    private int said(int answer, boolean negativeIsRefused) {
        status = negativeIsRefused && answer < 0 ? answer : 0;
        if (status < 0) refusals[-status]++;
        return answer;
    }

    private boolean noStamp(int s) { return s < 0 || s >= st.stamps.size(); }
    private boolean noLetter(int l) { return l < 0 || l >= st.letters.size(); }

    private static boolean in(int x, int lo, int hi) { return lo <= x && x <= hi; }

    private int stamp(int worth, int realm, int temper, int glue) {
        if (!in(worth, 1, 20) || !in(realm, 0, 5) || !in(temper, 0, 9) || !in(glue, 0, 9)) return -1;
        if (st.stamps.size() == 10) return -5;
        Stamp s = new Stamp();
        s.worth = worth; s.realm = realm; s.temper = temper; s.glue = glue;
        st.stamps.add(s);
        undos.clear();
        return st.stamps.size() - 1;
    }

    private int of(int s, int what) {
        if (noStamp(s)) return -1;
        Stamp x = st.stamps.get(s);
        switch (what) {
            case 0: return x.worth;
            case 1: return x.realm;
            case 2: return x.temper;
            case 3: return x.glue;
            case 4: return x.where >= 0 ? x.where : -1;
            case 5: return x.where >= 0 ? st.letters.get(x.where).row.indexOf(s) : -1;
            case 6: return x.where == -2 ? 1 : 0;
            case 7: return counts(st, s);
            case 8: return dries(st, s);
            default: return -1;
        }
    }

    private int letter(int fee) {
        if (!in(fee, 0, 60)) return -1;
        if (st.letters.size() == 3) return -5;
        Letter l = new Letter();
        l.fee = fee;
        st.letters.add(l);
        undos.clear();
        return st.letters.size() - 1;
    }

    private int at(int l, int what) {
        if (noLetter(l)) return -1;
        Letter x = st.letters.get(l);
        switch (what) {
            case 0: return x.fee;
            case 1: return x.row.size();
            case 2: return paid(st, l);
            case 3: return rowQuarrel(st, x.row);
            case 4: return x.late;
            case 5: case 6: case 7: case 8: case 9: return what - 5 < x.row.size() ? x.row.get(what - 5) : -1;
            default: return -1;
        }
    }

    private int asks(int l, int r, int what) {
        if (noStamp(l) || noStamp(r) || l == r) return -1;
        return what == 0 ? quarrel(st, l, r) : what == 1 ? (barred(st, l, r) ? 1 : 0) : -1;
    }

    private int terms(int what, int value) {
        if (!in(what, 0, 2) || !in(value, 0, new int[] {999, 10, 9}[what])) return -1;
        int was;
        if (what == 0) { was = st.day; st.day = value; }
        else if (what == 1) { was = st.rain; st.rain = value; }
        else { was = st.mood; st.mood = value; }
        undos.clear();
        return was;
    }

    private int feed(int[] numbers) {
        if (tape.size() + 20 > 400) return -1;
        for (int x : numbers) for (int i = 3; i >= 0; i--) tape.add(x >>> 8 * i & 255);
        return tape.size();
    }

    private int end(int n) {
        if (n < 0 || n > tape.size()) return -1;
        tape = new ArrayList<>(tape.subList(0, n));
        return n;
    }

    private int row() {
        if (tape.isEmpty()) return -6;
        int came = 0, bad = 0;
        for (int i = 0; i < tape.size(); i += 4) {
            if (i + 3 < tape.size() && stamp(tape.get(i), tape.get(i + 1), tape.get(i + 2), tape.get(i + 3)) >= 0) came++;
            else bad++;
        }
        tape.clear();
        misprints = bad;
        undos.clear();
        return came;
    }

    private String takeTape() {
        StringBuilder b = new StringBuilder();
        for (int x : tape) b.append((char) x);
        tape.clear();
        return b.toString();
    }

    private int law() {
        String text = takeTape();
        if (st.laws.size() == 6) return -5;
        fault = Recognizer.fault(text, false);
        if (fault != -1) return -6;
        st.laws.add(clauses(text));
        return st.laws.size() - 1;
    }

    private int orders() {
        String text = takeTape();
        stopped = -1;
        fault = Recognizer.fault(text, true);
        if (fault != -1) return -6;
        List<Clause> all = clauses(text);
        State ahead = st.copy();
        Deque<Done> undosAhead = new ArrayDeque<>(undos);
        int done = 0, latest = -1;
        for (int c = 0; c < all.size(); c++) {
            Clause k = all.get(c);
            for (int t = 0; t < k.times; t++) {
                final int d = done, la = latest;
                Words words = w -> orderWord(w, d, la);
                try {
                    if (!k.test.isEmpty() && !test(k.test, words)) continue;
                } catch (Broken e) {
                    continue;
                }
                int told;
                int what = List.of("stick", "peel", "cancel", "pass").indexOf(k.verb);
                try {
                    long a = k.first.isEmpty() ? 0 : sum(k.first, words);
                    long b = k.second.isEmpty() ? 0 : sum(k.second, words);
                    told = deed(what, (int) a, (int) b);
                } catch (Broken e) {
                    told = -3;
                }
                if (told < 0) {
                    st = ahead;
                    undos = undosAhead;
                    stopped = c;
                    return -3;
                }
                if (what == 2) latest = told;
                done++;
            }
        }
        return done;
    }

    private long orderWord(List<Token> w, int done, int latest) {
        int n = w.size() > 1 ? Integer.parseInt(w.get(1).text) : 0;
        switch (w.get(0).text) {
            case "day": return st.day;
            case "done": return done;
            case "latest": return latest;
            case "free": return st.stamps.stream().filter(x -> x.where == -1).count();
            case "paid": return noLetter(n) ? -1 : paid(st, n);
            case "quarrel": return noLetter(n) ? -1 : rowQuarrel(st, st.letters.get(n).row);
            case "spot": return noStamp(n) ? -1 : of(n, 5);
            default: throw new IllegalStateException(w.toString());
        }
    }

    // ------------------------------------------------------------ deeds

    private int deed(int what, int a, int b) {
        State ahead = st.copy();
        int told = deedOn(st, what, a, b);
        if (told >= 0) {
            undos.addLast(new Done(what, ahead));
            if (undos.size() > 16) undos.removeFirst();
        }
        return told;
    }

    private static int deedOn(State st, int what, int a, int b) {
        if (what == 3) return passOn(st);
        int l = what == 0 ? b : a;
        if (l < 0 || l >= st.letters.size()) return -2;
        if (what == 0 && (a < 0 || a >= st.stamps.size())) return -2;
        Letter x = st.letters.get(l);
        if (what == 0) {
            Stamp s = st.stamps.get(a);
            if (s.where != -1 || s.glue == 0 || x.row.size() >= 5) return -3;
            if (!x.row.isEmpty() && barred(st, x.row.get(x.row.size() - 1), a)) return -3;
            x.row.add(a);
            s.where = l;
            return x.row.size() - 1;
        }
        if (what == 1) {
            if (x.row.isEmpty()) return -3;
            int s = x.row.remove(x.row.size() - 1);
            st.stamps.get(s).where = -1;
            return s;
        }
        if (x.row.isEmpty() || paid(st, l) < x.fee) return -3;
        int q = rowQuarrel(st, x.row);
        for (int s : x.row) st.stamps.get(s).where = -2;
        x.row.clear();
        x.late = Math.min(9999, x.late + q);
        return q;
    }

    private static int passOn(State st) {
        if (st.day == 999) return -3;
        State ahead = st.copy();
        int fallen = 0;
        for (int s = 0; s < st.stamps.size(); s++) {
            Stamp x = st.stamps.get(s);
            if (x.where == -2) continue;
            x.glue = Math.max(0, x.glue - dries(ahead, s));
            if (x.where >= 0 && x.glue == 0) {
                st.letters.get(x.where).row.remove((Integer) s);
                x.where = -1;
                fallen++;
            }
        }
        st.day++;
        return fallen;
    }

    private int undo() {
        if (undos.isEmpty()) return -3;
        Done d = undos.removeLast();
        State a = d.ahead.copy();
        st.stamps = a.stamps;
        st.letters = a.letters;
        st.day = a.day;
        return d.deed;
    }

    // ------------------------------------------------------------ plans

    private List<Integer> open() {
        List<Integer> out = new ArrayList<>();
        for (int s = 0; s < st.stamps.size(); s++) if (st.stamps.get(s).where == -1 && st.stamps.get(s).glue > 0) out.add(s);
        return out;
    }

    private int[][] quarrelTable() {
        int n = st.stamps.size();
        int[][] q = new int[n][n];
        for (int i = 0; i < n; i++) for (int k = 0; k < n; k++) q[i][k] = i == k ? -1 : quarrel(st, i, k);
        return q;
    }

    private int[][] barTable() {
        int n = st.stamps.size();
        int[][] q = new int[n][n];
        for (int i = 0; i < n; i++) for (int k = 0; k < n; k++) q[i][k] = i == k || !barred(st, i, k) ? 0 : 1;
        return q;
    }

    private int madeUp(int l, int what) {
        if (noLetter(l)) return -1;
        int[][] q = quarrelTable(), bar = barTable();
        int[] c = new int[st.stamps.size()];
        for (int s = 0; s < c.length; s++) c[s] = counts(st, s);
        List<int[]> rows = new ArrayList<>();
        allRows(new ArrayList<>(), open(), rows, bar);
        int[] best = null;
        int bestQ = 0;
        for (int[] row : rows) {
            int sum = 0, qq = 0;
            for (int i = 0; i < row.length; i++) {
                sum += c[row[i]];
                if (i > 0) qq += q[row[i - 1]][row[i]];
            }
            if (sum != st.letters.get(l).fee) continue;
            boolean better = best == null || qq < bestQ || qq == bestQ
                && (row.length < best.length || row.length == best.length && Arrays.compare(row, best) < 0);
            if (better) { best = row; bestQ = qq; }
        }
        if (best == null) return -1;
        if (what == 0) return bestQ;
        if (what == 1) return best.length;
        return what >= 2 && what - 2 < best.length ? best[what - 2] : -1;
    }

    private void allRows(List<Integer> row, List<Integer> open, List<int[]> out, int[][] bar) {
        for (int i = 1; i < row.size(); i++) if (bar[row.get(i - 1)][row.get(i)] == 1) return;
        out.add(row.stream().mapToInt(x -> x).toArray());
        if (row.size() == 5) return;
        for (int s : open) {
            if (row.contains(s)) continue;
            row.add(s);
            allRows(row, open, out, bar);
            row.remove(row.size() - 1);
        }
    }

    private int buffers(int l, int i) {
        if (noLetter(l)) return -1;
        List<Integer> row = st.letters.get(l).row;
        List<int[]> gaps = new ArrayList<>();
        for (int k = 0; k + 1 < row.size(); k++) {
            if (quarrel(st, row.get(k), row.get(k + 1)) > 0) gaps.add(new int[] {row.get(k), row.get(k + 1)});
        }
        // all rows of buffers, in their order; the first that does is the answer
        List<List<Integer>> tries = new ArrayList<>();
        tries.add(new ArrayList<>());
        for (int[] gap : gaps) {
            List<List<Integer>> more = new ArrayList<>();
            for (List<Integer> t : tries) {
                for (int s : open()) {
                    if (t.contains(s)) continue;
                    if (quarrel(st, gap[0], s) != 0 || quarrel(st, s, gap[1]) != 0) continue;
                    if (barred(st, gap[0], s) || barred(st, s, gap[1])) continue;
                    List<Integer> u = new ArrayList<>(t);
                    u.add(s);
                    more.add(u);
                }
            }
            tries = more;
        }
        if (tries.isEmpty()) return -1;
        if (i == -1) return gaps.size();
        return i >= 0 && i < gaps.size() ? tries.get(0).get(i) : -1;
    }

    private int exchanged(int l, int what) {
        if (noLetter(l) || !in(what, 0, 1)) return -1;
        List<Integer> row = st.letters.get(l).row;
        int now = rowQuarrel(st, row), bestQ = now, two = -1;
        for (int code = 0; code < 50; code++) {
            int i = code / 10, k = code % 10;
            if (i >= k || k >= row.size()) continue;
            List<Integer> r = new ArrayList<>(row);
            java.util.Collections.swap(r, i, k);
            int q = rowQuarrel(st, r);
            if (q < bestQ) { bestQ = q; two = code; }
        }
        return two == -1 ? -1 : what == 0 ? two : bestQ;
    }

    private int pockets(int what) {
        int n = st.stamps.size();
        if (what < 0 || what > n) return -1;
        int[][] q = quarrelTable();
        List<Integer> sheet = new ArrayList<>();
        for (int s = 0; s < n; s++) if (st.stamps.get(s).where == -1) sheet.add(s);
        int[] as = new int[n];
        Arrays.fill(as, 100);
        for (int k = 0; ; k++) {
            if (color(sheet, 0, k, as, q)) {
                return what == 0 ? k : as[what - 1];
            }
        }
    }

    private boolean color(List<Integer> sheet, int i, int k, int[] as, int[][] q) {
        if (i == sheet.size()) return true;
        int s = sheet.get(i);
        // a pocket ahead of which one is empty can't be in the first row
        int used = 0;
        for (int j = 0; j < i; j++) used = Math.max(used, as[sheet.get(j)] + 1);
        for (int p = 0; p < k && p <= used; p++) {
            boolean ok = true;
            for (int j = 0; j < i; j++) {
                int o = sheet.get(j);
                if (as[o] == p && (q[s][o] > 0 || q[o][s] > 0)) ok = false;
            }
            as[s] = p;
            if (ok && color(sheet, i + 1, k, as, q)) return true;
        }
        return false;
    }

    private int hear(int right, int q) {
        if (!in(q, 0, 20)) return -1;
        if (noStamp(right)) return -2;
        if (st.heard.size() == 6) return -5;
        st.heard.add(new int[] {right, q});
        return st.heard.size();
    }

    private List<Integer> canBe() {
        List<Integer> out = new ArrayList<>();
        for (int s = 0; s < st.stamps.size(); s++) {
            boolean ok = true;
            for (int[] h : st.heard) ok &= h[0] != s && quarrel(st, s, h[0]) == h[1];
            if (ok) out.add(s);
        }
        return out;
    }

    private int beside(int what) {
        List<Integer> can = canBe();
        if (can.isEmpty() || !in(what, 0, 1)) return -1;
        int best = -1, bestMost = 99;
        for (int r = 0; r < st.stamps.size(); r++) {
            int most = 0;
            for (int a : can) {
                int same = 0;
                for (int b : can) {
                    if (a == b || a != r && b != r && quarrel(st, a, r) == quarrel(st, b, r)) same++;
                }
                most = Math.max(most, same);
            }
            if (most < bestMost) { best = r; bestMost = most; }
        }
        return what == 0 ? best : bestMost;
    }

    private int sorts(int f, int what) {
        if (!in(f, 1, 30) || !in(what, 0, 1)) return -1;
        for (int size = 1; size <= st.stamps.size(); size++) {
            for (int bits = 0; bits < 1 << st.stamps.size(); bits++) {
                if (Integer.bitCount(bits) != size) continue;
                boolean all = true;
                for (int fee = 1; fee <= f && all; fee++) {
                    int n = fewest(fee, bits);
                    all = n != -1 && n <= 5;
                }
                if (all) return what == 0 ? size : bits;
            }
        }
        return -1;
    }

    private int fewest(int fee, int sorts) {
        if (!in(fee, 0, 60) || !in(sorts, 0, 1023)) return -1;
        Set<Integer> worths = new LinkedHashSet<>();
        for (int s = 0; s < st.stamps.size(); s++) if ((sorts & 1 << s) != 0) worths.add(counts(st, s));
        Set<Integer> sums = new LinkedHashSet<>(List.of(0));
        for (int n = 0; n <= 60; n++) {
            if (sums.contains(fee)) return n;
            Set<Integer> more = new LinkedHashSet<>();
            for (int x : sums) for (int w : worths) if (x + w <= fee) more.add(x + w);
            sums = more;
        }
        return -1;
    }

    private long holds(int l) {
        if (noLetter(l)) return -1;
        long p = 1000000000000L;
        for (int s : st.letters.get(l).row) p = p * (10 - st.rain * (10 - st.stamps.get(s).glue) / 10) / 10;
        return p;
    }

    private int kin(int s) {
        if (noStamp(s)) return -1;
        int b = 0;
        for (int o = 0; o < st.stamps.size(); o++) {
            if (o != s && quarrel(st, s, o) + quarrel(st, o, s) == 0) b += 1 << o;
        }
        return b;
    }

    private int compare(int law) {
        if (law < -1 || law >= st.laws.size()) return -1;
        State other = st.copy();
        other.force = law;
        int q = 0;
        for (Letter l : other.letters) q += rowQuarrel(other, l.row);
        return q;
    }

    private int reigns(int seed, int n) {
        if (!in(seed, 0, 1000000) || !in(n, 1, 60)) return -1;
        if (st.stamps.isEmpty() || st.letters.isEmpty()) return -3;
        State p = st.copy();
        long s = seed;
        int cancelled = 0;
        while (n-- > 0 && p.day != 999) {
            s = (s * 1103 + 12345) % 1000003;
            int stamp = (int) (s % p.stamps.size());
            s = (s * 1103 + 12345) % 1000003;
            int letter = (int) (s % p.letters.size());
            s = (s * 1103 + 12345) % 1000003;
            int what = (int) (s % 4);
            if (what < 2) deedOn(p, 0, stamp, letter);
            if (what == 2) deedOn(p, 1, letter, 0);
            if (what == 3 && deedOn(p, 2, letter, 0) >= 0) cancelled++;
            deedOn(p, 3, 0, 0);
        }
        latestReigns = p;
        return cancelled;
    }

    private int drawn(int k, int what) {
        if (latestReigns == null || k < 0) return -1;
        if (what == 2) return k < latestReigns.letters.size() ? latestReigns.letters.get(k).late : -1;
        if (k >= latestReigns.stamps.size()) return -1;
        Stamp x = latestReigns.stamps.get(k);
        return what == 0 ? Math.max(-1, x.where) : what == 1 ? x.glue : -1;
    }

    private int count(int what) {
        switch (what) {
            case 0: return st.stamps.size();
            case 1: return (int) st.stamps.stream().filter(x -> x.where == -1).count();
            case 2: return st.letters.size();
            case 3: return st.heard.size();
            case 4: return st.laws.size();
            case 5: return undos.size();
            case 6: return tape.size();
            case 7: return refusals[1];
            case 8: return refusals[2];
            case 9: return refusals[3];
            case 10: return refusals[5];
            case 11: return refusals[6];
            case 12: return st.force;
            case 13: return st.day;
            case 14: return st.rain;
            case 15: return st.mood;
            default: return -1;
        }
    }

    // ------------------------------------------------------------ laws

    private static int lawTells(State st, String verb, int left, int right, int without, int most) {
        if (st.force == -1) return without;
        Stamp l = st.stamps.get(left), r = right == -1 ? null : st.stamps.get(right);
        Words words = w -> {
            switch (w.get(0).text) {
                case "temper": return l.temper;
                case "ire": return r == null ? -1 : r.temper;
                case "realm": return l.realm;
                case "land": return r == null ? -1 : r.realm;
                case "worth": return l.worth;
                case "glue": return l.glue;
                case "day": return st.day;
                case "mood": return st.mood;
                default: throw new IllegalStateException(w.toString());
            }
        };
        int told = without;
        for (Clause c : st.laws.get(st.force)) {
            if (!c.verb.equals(verb)) continue;
            try {
                if (!c.test.isEmpty() && !test(c.test, words)) continue;
                long v = c.first.isEmpty() ? 1 : sum(c.first, words);
                told = (int) Math.min(most, Math.max(0, v));
            } catch (Broken e) {
                // it does not hold
            }
        }
        return told;
    }

    static int quarrel(State st, int l, int r) {
        Stamp a = st.stamps.get(l), b = st.stamps.get(r);
        return lawTells(st, "quarrels", l, r, a.realm == b.realm ? 0 : a.temper + b.temper, 20);
    }

    static boolean barred(State st, int l, int r) { return lawTells(st, "bars", l, r, 0, 1) == 1; }

    static int dries(State st, int s) { return lawTells(st, "dries", s, -1, 1, 9); }

    static int counts(State st, int s) { return lawTells(st, "counts", s, -1, st.stamps.get(s).worth, 60); }

    static int paid(State st, int l) {
        int sum = 0;
        for (int s : st.letters.get(l).row) sum += counts(st, s);
        return sum;
    }

    static int rowQuarrel(State st, List<Integer> row) {
        int q = 0;
        for (int i = 0; i + 1 < row.size(); i++) q += quarrel(st, row.get(i), row.get(i + 1));
        return q;
    }

    // ------------------------------------------------------------ texts

    static List<Token> tokens(String text) {
        List<Token> out = new ArrayList<>();
        java.util.regex.Matcher m = java.util.regex.Pattern.compile("[a-z]+|[0-9]+|[^ ]", java.util.regex.Pattern.DOTALL).matcher(text);
        while (m.find()) out.add(new Token(m.group(), m.start()));
        return out;
    }

    /** Splits at the named tokens that stand outside of brackets. */
    private static List<List<Token>> split(List<Token> all, String... at) {
        List<List<Token>> out = new ArrayList<>();
        List<Token> now = new ArrayList<>();
        int depth = 0;
        for (Token t : all) {
            if ("([".contains(t.text)) depth++;
            if (")]".contains(t.text)) depth--;
            if (depth == 0 && Arrays.asList(at).contains(t.text)) {
                out.add(now);
                now = new ArrayList<>();
            } else {
                now.add(t);
            }
        }
        out.add(now);
        return out;
    }

    private static int lastOutside(List<Token> all, String signs) {
        int depth = 0;
        for (int i = all.size() - 1; i >= 0; i--) {
            String t = all.get(i).text;
            if (")]".contains(t)) depth++;
            if ("([".contains(t)) depth--;
            if (depth == 0 && signs.contains(t)) return i;
        }
        return -1;
    }

    /** The clauses of a text without fault. */
    static List<Clause> clauses(String text) {
        List<Clause> out = new ArrayList<>();
        for (List<Token> c : split(tokens(text), ";")) {
            String verb = c.get(0).text;
            List<List<Token>> parts = split(c.subList(1, c.size()), "if");
            List<Token> test = parts.size() > 1 ? parts.get(1) : List.of();
            List<List<Token>> timed = split(parts.get(0), "times");
            int times = timed.size() > 1 ? Integer.parseInt(timed.get(1).get(0).text) : 1;
            List<List<Token>> sums = split(timed.get(0), "on");
            out.add(new Clause(verb, sums.get(0), sums.size() > 1 ? sums.get(1) : List.of(), times, test));
        }
        return out;
    }

    static boolean test(List<Token> t, Words w) throws Broken {
        for (List<Token> both : split(t, "or")) {
            boolean all = true;
            for (List<Token> plain : split(both, "and")) {
                if (!plain(plain, w)) { all = false; break; }
            }
            if (all) return true;
        }
        return false;
    }

    private static boolean plain(List<Token> t, Words w) throws Broken {
        if (t.get(0).text.equals("not")) return !plain(t.subList(1, t.size()), w);
        if (t.get(0).text.equals("(")) return test(t.subList(1, t.size() - 1), w);
        int i = lastOutside(t, "<>=");
        long a = sum(t.subList(0, i), w), b = sum(t.subList(i + 1, t.size()), w);
        String sign = t.get(i).text;
        return sign.equals("<") ? a < b : sign.equals(">") ? a > b : a == b;
    }

    static long sum(List<Token> t, Words w) throws Broken {
        int i = lastOutside(t, "+-");
        if (i < 0) i = lastOutside(t, "*/%");
        if (i >= 0) {
            long a = sum(t.subList(0, i), w), b = sum(t.subList(i + 1, t.size()), w);
            String sign = t.get(i).text;
            if ("/%".contains(sign) && b == 0) throw new Broken();
            long r = sign.equals("+") ? a + b : sign.equals("-") ? a - b : sign.equals("*") ? a * b
                : sign.equals("/") ? a / b : a % b;
            if (Math.abs(r) > 1000000000L) throw new Broken();
            return r;
        }
        String first = t.get(0).text;
        if (first.equals("[")) return sum(t.subList(1, t.size() - 1), w);
        if (Character.isDigit(first.charAt(0))) return Long.parseLong(first);
        return w.value(t);
    }
}
