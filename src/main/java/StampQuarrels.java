/**
 * A counter with stamps that quarrel when they lie side by side on letters, laws that tell how they
 * quarrel, and orders that are run wholly or not at all.
 */
public final class StampQuarrels {
    /** There is none. */
    public static final int NONE = -1;

    // What a call is REFUSED by.
    private static final int WRONG_NUMBER = -1;
    private static final int NO_SUCH = -2;
    private static final int CANT_BE = -3;
    private static final int NO_ROOM = -5;
    private static final int BAD_TEXT = -6;

    private static final int MOST_STAMPS = 10;
    private static final int MOST_LETTERS = 3;
    private static final int MOST_SPOTS = 5;
    private static final int MOST_HEARD = 6;
    private static final int MOST_LAWS = 6;
    private static final int IMAGES = 2;

    private static final int MOST_WORTH = 20;
    private static final int MOST_REALM = 5;
    private static final int MOST_TEMPER = 9;
    private static final int MOST_GLUE = 9;
    private static final int MOST_FEE = 60;
    private static final int MOST_QUARREL = 20;
    private static final int MOST_LATE = 9999;
    private static final int LAST_DAY = 999;
    private static final int MOST_RAIN = 10;
    private static final int MOST_MOOD = 9;

    private static final int TAPE_ROOM = 400;
    private static final int STAMP_BYTES = 4;

    // Where a STAMP is that is on no LETTER.
    private static final int IN_SHEET = -1;
    private static final int CANCELLED = -2;

    // What ORDERS and undo() call the four deeds.
    private static final int STICK = 0;
    private static final int PEEL = 1;
    private static final int CANCEL = 2;
    private static final int PASS = 3;

    // The kinds of a LAW's CLAUSES.
    private static final int QUARRELS = 0;
    private static final int DRIES = 1;
    private static final int COUNTS = 2;
    private static final int BARS = 3;

    private static final int MOST_SORTS_FEE = 30;
    private static final int ALL_SORTS = 1023;
    private static final int MOST_SEED = 1_000_000;
    private static final int MOST_REIGNS = 60;
    private static final int NOT_IN_SHEET = 100;
    private static final long SURE = 1_000_000_000_000L;

    private final State state;
    private final State[] images;
    private final boolean[] imageKept;
    private final byte[] tape;
    private final Script draft;
    private final Reader reader;
    private final History history;
    private final Judge judge;
    private final Mover mover;
    private final Clerk clerk;
    private final Plans plans;
    private final Guess guess;
    private final Reign reign;
    private final int[] refusals;
    private int tapeLength;
    private int misprints;
    private int status;

    public StampQuarrels() {
        state = new State();
        images = new State[IMAGES];
        for (int k = 0; k < IMAGES; k++) {
            images[k] = new State();
        }
        imageKept = new boolean[IMAGES];
        tape = new byte[TAPE_ROOM];
        draft = new Script(Reader.MOST_CLAUSES, TAPE_ROOM);
        reader = new Reader(tape, draft);
        history = new History();
        judge = new Judge(state, state.board);
        mover = new Mover(judge, history);
        clerk = new Clerk(mover, history);
        plans = new Plans(judge);
        guess = new Guess(judge);
        reign = new Reign(state);
        refusals = new int[-BAD_TEXT + 1];
    }

    public int stamp(int worth, int realm, int temper, int glue) {
        if (!canBeStamp(worth, realm, temper, glue)) {
            return refused(WRONG_NUMBER);
        }
        if (state.stamps >= MOST_STAMPS) {
            return refused(NO_ROOM);
        }
        history.kept = 0;
        return granted(state.addStamp(worth, realm, temper, glue));
    }

    public int of(int stamp, int what) {
        if (!isStamp(stamp)) {
            return NONE;
        }
        Board board = state.board;
        switch (what) {
            case 0:
                return state.worth[stamp];
            case 1:
                return state.realm[stamp];
            case 2:
                return state.temper[stamp];
            case 3:
                return board.glueOf(stamp);
            case 4:
                return board.letterOf(stamp);
            case 5:
                return board.spotOf(stamp);
            case 6:
                return board.homeOf(stamp) == CANCELLED ? 1 : 0;
            case 7:
                return judge.counts(stamp);
            case 8:
                return judge.dries(stamp);
            default:
                return NONE;
        }
    }

    public int letter(int fee) {
        if (fee < 0 || fee > MOST_FEE) {
            return refused(WRONG_NUMBER);
        }
        if (state.letters >= MOST_LETTERS) {
            return refused(NO_ROOM);
        }
        history.kept = 0;
        return granted(state.addLetter(fee));
    }

    public int at(int letter, int what) {
        if (!isLetter(letter)) {
            return NONE;
        }
        Board board = state.board;
        switch (what) {
            case 0:
                return state.fee[letter];
            case 1:
                return board.sizeOf(letter);
            case 2:
                return judge.paid(letter);
            case 3:
                return judge.quarrelOn(letter);
            case 4:
                return board.lateOf(letter);
            default:
                int spot = what - 5;
                return what >= 5 && spot < board.sizeOf(letter) ? board.stampAt(letter, spot) : NONE;
        }
    }

    public int asks(int left, int right, int what) {
        if (!isStamp(left) || !isStamp(right) || left == right) {
            return NONE;
        }
        if (what == 0) {
            return judge.quarrel(left, right);
        }
        if (what == 1) {
            return judge.barred(left, right) ? 1 : 0;
        }
        return NONE;
    }

    public int terms(int what, int value) {
        if (what < 0 || what > 2 || value < 0 || value > mostOfTerm(what)) {
            return refused(WRONG_NUMBER);
        }
        int was = termNow(what);
        if (what == 0) {
            state.board.setDay(value);
        } else if (what == 1) {
            state.rain = value;
        } else {
            state.mood = value;
        }
        history.kept = 0;
        return granted(was);
    }

    public int feed(int a, int b, int c, int d, int e) {
        if (tapeLength > TAPE_ROOM - 20) {
            return NONE;
        }
        putOnTape(a);
        putOnTape(b);
        putOnTape(c);
        putOnTape(d);
        putOnTape(e);
        return tapeLength;
    }

    public int end(int n) {
        if (n < 0 || n > tapeLength) {
            return NONE;
        }
        tapeLength = n;
        return n;
    }

    public int row() {
        if (tapeLength == 0) {
            return refused(BAD_TEXT);
        }
        int came = 0;
        int spoilt = 0;
        for (int from = 0; from < tapeLength; from += STAMP_BYTES) {
            if (printed(from)) {
                came++;
            } else {
                spoilt++;
            }
        }
        tapeLength = 0;
        misprints = spoilt;
        history.kept = 0;
        return granted(came);
    }

    public int misprints() {
        return misprints;
    }

    public int law() {
        int length = tapeLength;
        tapeLength = 0;
        if (state.laws >= MOST_LAWS) {
            return refused(NO_ROOM);
        }
        if (!reader.readLaw(length)) {
            return refused(BAD_TEXT);
        }
        return granted(state.addLaw(draft.trimmed()));
    }

    public int orders() {
        int length = tapeLength;
        tapeLength = 0;
        clerk.stoppedAt = NONE;
        if (!reader.readOrders(length)) {
            return refused(BAD_TEXT);
        }
        return answered(clerk.carryOut(draft));
    }

    public int fault() {
        return reader.faultAt;
    }

    public int stopped() {
        return clerk.stoppedAt;
    }

    public int force(int law) {
        if (law != NONE && !isLaw(law)) {
            return refused(NO_SUCH);
        }
        int was = state.force;
        state.force = law;
        return granted(was);
    }

    public int stick(int stamp, int letter) {
        return answered(mover.act(STICK, stamp, letter));
    }

    public int peel(int letter) {
        return answered(mover.act(PEEL, letter, NONE));
    }

    public int cancel(int letter) {
        return answered(mover.act(CANCEL, letter, NONE));
    }

    public int pass() {
        return answered(mover.act(PASS, NONE, NONE));
    }

    public int undo() {
        return answered(history.takeBack(state.board));
    }

    public int madeUp(int letter, int what) {
        if (!isLetter(letter) || what < 0 || what > MOST_SPOTS + 1) {
            return NONE;
        }
        if (!plans.makeUp(state.fee[letter])) {
            return NONE;
        }
        if (what == 0) {
            return plans.leastQuarrel;
        }
        if (what == 1) {
            return plans.bestSize;
        }
        return what - 2 < plans.bestSize ? plans.best[what - 2] : NONE;
    }

    public int buffers(int letter, int i) {
        if (!isLetter(letter) || i < NONE || !plans.findBuffers(letter)) {
            return NONE;
        }
        if (i == NONE) {
            return plans.gaps;
        }
        return i < plans.gaps ? plans.chosen[i] : NONE;
    }

    public int exchanged(int letter, int what) {
        if (!isLetter(letter) || what < 0 || what > 1 || !plans.findExchange(letter)) {
            return NONE;
        }
        return what == 0 ? plans.bestTwo : plans.leastQuarrel;
    }

    public int pockets(int what) {
        if (what < 0 || what > state.stamps) {
            return NONE;
        }
        int fewestPockets = guess.findPockets();
        return what == 0 ? fewestPockets : guess.pocketOf[what - 1];
    }

    public int hear(int right, int quarrel) {
        if (quarrel < 0 || quarrel > MOST_QUARREL) {
            return refused(WRONG_NUMBER);
        }
        if (!isStamp(right)) {
            return refused(NO_SUCH);
        }
        if (state.heard >= MOST_HEARD) {
            return refused(NO_ROOM);
        }
        return granted(state.addHeard(right, quarrel));
    }

    public int forget() {
        int was = state.heard;
        state.heard = 0;
        return was;
    }

    public int canBe() {
        return guess.suspects();
    }

    public int beside(int what) {
        if (what < 0 || what > 1 || !guess.findBeside()) {
            return NONE;
        }
        return what == 0 ? guess.bestRight : guess.leftAtMost;
    }

    public int sorts(int f, int what) {
        if (f < 1 || f > MOST_SORTS_FEE || what < 0 || what > 1) {
            return NONE;
        }
        int found = plans.findSorts(f);
        if (found == NONE) {
            return NONE;
        }
        return what == 0 ? Integer.bitCount(found) : found;
    }

    public int fewest(int fee, int sorts) {
        if (fee < 0 || fee > MOST_FEE || sorts < 0 || sorts > ALL_SORTS) {
            return NONE;
        }
        return plans.findFewest(fee, sorts);
    }

    public long holds(int letter) {
        if (!isLetter(letter)) {
            return NONE;
        }
        Board board = state.board;
        long chance = SURE;
        for (int i = 0; i < board.sizeOf(letter); i++) {
            int wet = state.rain * (10 - board.glueOf(board.stampAt(letter, i))) / 10;
            chance = chance * (10 - wet) / 10;
        }
        return chance;
    }

    public int kin(int stamp) {
        return isStamp(stamp) ? guess.friendsOf(stamp) : NONE;
    }

    public int compare(int law) {
        if (law != NONE && !isLaw(law)) {
            return NONE;
        }
        int inForce = state.force;
        state.force = law;
        int together = 0;
        for (int letter = 0; letter < state.letters; letter++) {
            together += judge.quarrelOn(letter);
        }
        state.force = inForce;
        return together;
    }

    public int reigns(int seed, int n) {
        if (seed < 0 || seed > MOST_SEED || n < 1 || n > MOST_REIGNS) {
            return refused(WRONG_NUMBER);
        }
        if (state.stamps == 0 || state.letters == 0) {
            return refused(CANT_BE);
        }
        return granted(reign.run(seed, n));
    }

    public int drawn(int k, int what) {
        if (k < 0) {
            return NONE;
        }
        if (what == 0 && k < reign.stamps) {
            return reign.board.letterOf(k);
        }
        if (what == 1 && k < reign.stamps) {
            return reign.board.glueOf(k);
        }
        return what == 2 && k < reign.letters ? reign.board.lateOf(k) : NONE;
    }

    public int image(int k) {
        if (!isImage(k)) {
            return refused(WRONG_NUMBER);
        }
        images[k].copyFrom(state);
        imageKept[k] = true;
        return granted(0);
    }

    public int back(int k) {
        if (!isImage(k)) {
            return refused(WRONG_NUMBER);
        }
        if (!imageKept[k]) {
            return refused(NO_SUCH);
        }
        state.copyFrom(images[k]);
        history.kept = 0;
        return granted(0);
    }

    public int count(int what) {
        switch (what) {
            case 0:
                return state.stamps;
            case 1:
                return state.inSheet();
            case 2:
                return state.letters;
            case 3:
                return state.heard;
            case 4:
                return state.laws;
            case 5:
                return history.kept;
            case 6:
                return tapeLength;
            case 7:
                return refusals[-WRONG_NUMBER];
            case 8:
                return refusals[-NO_SUCH];
            case 9:
                return refusals[-CANT_BE];
            case 10:
                return refusals[-NO_ROOM];
            case 11:
                return refusals[-BAD_TEXT];
            case 12:
                return state.force;
            default:
                return what >= 13 && what <= 15 ? termNow(what - 13) : NONE;
        }
    }

    public int status() {
        return status;
    }

    private int refused(int by) {
        status = by;
        if (by < 0 && -by < refusals.length) {
            refusals[-by]++;
        }
        return by;
    }

    private int granted(int answer) {
        status = 0;
        return answer;
    }

    /** For deeds, whose answers are never below 0 but where they are REFUSED. */
    private int answered(int answer) {
        return answer < 0 ? refused(answer) : granted(answer);
    }

    private boolean isStamp(int stamp) {
        return stamp >= 0 && stamp < state.stamps;
    }

    private boolean isLetter(int letter) {
        return letter >= 0 && letter < state.letters;
    }

    private boolean isLaw(int law) {
        return law >= 0 && law < state.laws;
    }

    private static boolean isImage(int k) {
        return k >= 0 && k < IMAGES;
    }

    private static boolean canBeStamp(int worth, int realm, int temper, int glue) {
        return worth >= 1 && worth <= MOST_WORTH && realm >= 0 && realm <= MOST_REALM
            && temper >= 0 && temper <= MOST_TEMPER && glue >= 0 && glue <= MOST_GLUE;
    }

    private static int mostOfTerm(int what) {
        return what == 0 ? LAST_DAY : what == 1 ? MOST_RAIN : MOST_MOOD;
    }

    private int termNow(int what) {
        return what == 0 ? state.board.today() : what == 1 ? state.rain : state.mood;
    }

    private void putOnTape(int four) {
        for (int shift = 24; shift >= 0 && tapeLength < TAPE_ROOM; shift -= 8) {
            tape[tapeLength] = (byte) (four >> shift);
            tapeLength++;
        }
    }

    /** Whether the four bytes from there became a STAMP; else they are a MISPRINT. */
    private boolean printed(int from) {
        if (from < 0 || from + STAMP_BYTES > tapeLength || state.stamps >= MOST_STAMPS) {
            return false;
        }
        int worth = tape[from] & 255;
        int realm = tape[from + 1] & 255;
        int temper = tape[from + 2] & 255;
        int glue = tape[from + 3] & 255;
        if (!canBeStamp(worth, realm, temper, glue)) {
            return false;
        }
        state.addStamp(worth, realm, temper, glue);
        return true;
    }

    /**
     * A TEXT that was read: its CLAUSES, and the steps of all its SUMS and TESTS one behind the other,
     * operands ahead of what joins them.
     */
    private static final class Script {
        static final long LIMIT = 1_000_000_000L;
        // Beyond the limit, so that no SUM tells it.
        static final long BROKEN = -2L * LIMIT;

        // No TEXT nests deep enough for more operands that wait.
        static final int STACK_ROOM = 64;

        static final int NUMBER = 0;
        static final int WORD = 1;
        static final int NOT = 2;
        static final int AND = 3;
        static final int OR = 4;
        static final int ADD = 5;
        static final int TAKE = 6;
        static final int TIMES = 7;
        static final int DIVIDE = 8;
        static final int REST = 9;
        static final int LESS = 10;
        static final int MORE = 11;
        static final int SAME = 12;
        static final int STOP = 13;

        int clauses;
        int steps;
        final int[] kind;
        final int[] times;
        final int[] first;
        final int[] second;
        final int[] test;
        final int[] words;
        final int[] op;
        final int[] arg;

        Script(int clauseRoom, int stepRoom) {
            int clausesMade = Math.max(clauseRoom, 0);
            int stepsMade = Math.max(stepRoom, 0);
            kind = new int[clausesMade];
            times = new int[clausesMade];
            first = new int[clausesMade];
            second = new int[clausesMade];
            test = new int[clausesMade];
            words = new int[clausesMade];
            op = new int[stepsMade];
            arg = new int[stepsMade];
        }

        /** A copy without spare room, to keep as a LAW. */
        Script trimmed() {
            Script copy = new Script(clauses, steps);
            copy.clauses = clauses;
            copy.steps = steps;
            System.arraycopy(kind, 0, copy.kind, 0, clauses);
            System.arraycopy(times, 0, copy.times, 0, clauses);
            System.arraycopy(first, 0, copy.first, 0, clauses);
            System.arraycopy(second, 0, copy.second, 0, clauses);
            System.arraycopy(test, 0, copy.test, 0, clauses);
            System.arraycopy(words, 0, copy.words, 0, clauses);
            System.arraycopy(op, 0, copy.op, 0, steps);
            System.arraycopy(arg, 0, copy.arg, 0, steps);
            return copy;
        }

        /** What the SUM or TEST (1: so, 0: not so) that begins there tells by these facts, or BROKEN. */
        long tell(int from, int[] facts, long[] stack) {
            int top = 0;
            int step = from;
            for (int left = steps; left > 0 && step >= 0 && step < steps; left--) {
                int what = op[step];
                int with = arg[step];
                step++;
                if (what == STOP) {
                    break;
                }
                if (what == NUMBER || what == WORD) {
                    if (top >= stack.length || what == WORD && (with < 0 || with >= facts.length)) {
                        return BROKEN;
                    }
                    stack[top] = what == NUMBER ? with : facts[with];
                    top++;
                } else if (what == NOT || what == AND || what == OR) {
                    if (top < 1) {
                        return BROKEN;
                    }
                    boolean so = stack[top - 1] != 0;
                    if (what == NOT) {
                        stack[top - 1] = so ? 0 : 1;
                    } else if (so == (what == OR)) {
                        // what stands behind can't matter any more
                        step = with;
                    } else {
                        top--;
                    }
                } else {
                    if (top < 2 || stack[top - 1] == 0 && (what == DIVIDE || what == REST)) {
                        return BROKEN;
                    }
                    top--;
                    long a = stack[top - 1];
                    long b = stack[top];
                    long joined = what == ADD ? a + b : what == TAKE ? a - b : what == TIMES ? a * b
                        : what == DIVIDE ? a / b : what == REST ? a % b
                        : (what == LESS ? a < b : what == MORE ? a > b : a == b) ? 1 : 0;
                    if (joined > LIMIT || joined < -LIMIT) {
                        return BROKEN;
                    }
                    stack[top - 1] = joined;
                }
            }
            return top == 1 ? stack[0] : BROKEN;
        }
    }

    /** Reads the TEXT on the TAPE, in either language, into a Script, or finds its FAULT. */
    private static final class Reader {
        static final int MOST_CLAUSES = 12;
        static final int MOST_PARTS = 50;
        static final int MOST_BRACKETS = 8;
        static final int MOST_NUMBER = 1000;
        static final int MOST_TIMES = 20;

        // The sorts of TOKENS.
        static final int AT_END = 0;
        static final int LETTERS = 1;
        static final int DIGITS = 2;
        static final int SIGN = 3;

        private final byte[] bytes;
        private final Script script;
        private int length;
        private boolean ofOrders;
        private int sort;
        private int start;
        private int stop;
        private int number;
        private int parts;
        private int clauseAt;
        int faultAt;

        Reader(byte[] tape, Script into) {
            bytes = tape;
            script = into;
            faultAt = NONE;
        }

        boolean readLaw(int textLength) {
            ofOrders = false;
            return readText(textLength);
        }

        boolean readOrders(int textLength) {
            ofOrders = true;
            return readText(textLength);
        }

        private boolean readText(int textLength) {
            length = Math.min(textLength, bytes.length);
            faultAt = NONE;
            parts = 0;
            stop = 0;
            script.clauses = 0;
            script.steps = 0;
            next();
            for (int i = 0; i < MOST_CLAUSES && i < script.kind.length; i++) {
                clauseAt = i;
                script.times[i] = 1;
                script.first[i] = NONE;
                script.second[i] = NONE;
                script.test[i] = NONE;
                script.words[i] = 0;
                if (!(ofOrders ? orderClause(i) : lawClause(i)) || !condition(i)) {
                    return false;
                }
                script.clauses = i + 1;
                if (sort == AT_END) {
                    return true;
                }
                if (!took(";")) {
                    return fail();
                }
            }
            return fail();
        }

        private boolean lawClause(int i) {
            int kind = lawKind();
            if (kind == NONE) {
                return fail();
            }
            next();
            script.kind[i] = kind;
            if (kind == BARS) {
                return true;
            }
            script.first[i] = script.steps;
            return wholeSum();
        }

        private int lawKind() {
            return sees("quarrels") ? QUARRELS : sees("dries") ? DRIES : sees("counts") ? COUNTS
                : sees("bars") ? BARS : NONE;
        }

        private boolean orderClause(int i) {
            int kind = orderKind();
            if (kind == NONE) {
                return fail();
            }
            next();
            script.kind[i] = kind;
            if (kind != PASS) {
                script.first[i] = script.steps;
                if (!wholeSum()) {
                    return false;
                }
            }
            if (kind == STICK) {
                if (!took("on")) {
                    return fail();
                }
                script.second[i] = script.steps;
                if (!wholeSum()) {
                    return false;
                }
            }
            if (took("times")) {
                if (sort != DIGITS || number < 1 || number > MOST_TIMES) {
                    return fail();
                }
                script.times[i] = number;
                next();
            }
            return true;
        }

        private int orderKind() {
            return sees("stick") ? STICK : sees("peel") ? PEEL : sees("cancel") ? CANCEL
                : sees("pass") ? PASS : NONE;
        }

        private boolean wholeSum() {
            return sum(0) && put(Script.STOP, 0);
        }

        private boolean condition(int i) {
            if (!took("if")) {
                return true;
            }
            script.test[i] = script.steps;
            return anyOf(0) && put(Script.STOP, 0);
        }

        /** TEST; brackets tells how many are open around it. */
        private boolean anyOf(int brackets) {
            if (!allOf(brackets)) {
                return false;
            }
            for (int i = 0; i < TAPE_ROOM && took("or"); i++) {
                int jump = script.steps;
                if (!put(Script.OR, 0) || !allOf(brackets)) {
                    return false;
                }
                script.arg[jump] = script.steps;
            }
            return true;
        }

        /** BOTH. */
        private boolean allOf(int brackets) {
            if (!plain(brackets)) {
                return false;
            }
            for (int i = 0; i < TAPE_ROOM && took("and"); i++) {
                int jump = script.steps;
                if (!put(Script.AND, 0) || !plain(brackets)) {
                    return false;
                }
                script.arg[jump] = script.steps;
            }
            return true;
        }

        private boolean plain(int brackets) {
            boolean turned = false;
            // counted, not nested: a TEXT may have a hundred of them
            for (int i = 0; i < TAPE_ROOM && took("not"); i++) {
                turned = !turned;
            }
            if (sees("(")) {
                if (brackets >= MOST_BRACKETS) {
                    return fail();
                }
                next();
                if (!anyOf(brackets + 1)) {
                    return false;
                }
                if (!took(")")) {
                    return fail();
                }
            } else if (!comparison(brackets)) {
                return false;
            }
            return !turned || put(Script.NOT, 0);
        }

        private boolean comparison(int brackets) {
            if (!sum(brackets)) {
                return false;
            }
            int by = sees("<") ? Script.LESS : sees(">") ? Script.MORE : sees("=") ? Script.SAME : NONE;
            if (by == NONE) {
                return fail();
            }
            next();
            return sum(brackets) && put(by, 0);
        }

        private boolean sum(int brackets) {
            if (!term(brackets)) {
                return false;
            }
            for (int i = 0; i < TAPE_ROOM; i++) {
                int by = sees("+") ? Script.ADD : sees("-") ? Script.TAKE : NONE;
                if (by == NONE) {
                    return true;
                }
                next();
                if (!term(brackets) || !put(by, 0)) {
                    return false;
                }
            }
            return fail();
        }

        private boolean term(int brackets) {
            if (!part(brackets)) {
                return false;
            }
            for (int i = 0; i < TAPE_ROOM; i++) {
                int by = sees("*") ? Script.TIMES : sees("/") ? Script.DIVIDE : sees("%") ? Script.REST : NONE;
                if (by == NONE) {
                    return true;
                }
                next();
                if (!part(brackets) || !put(by, 0)) {
                    return false;
                }
            }
            return fail();
        }

        private boolean part(int brackets) {
            if (sees("[")) {
                if (brackets >= MOST_BRACKETS) {
                    return fail();
                }
                next();
                return sum(brackets + 1) && (took("]") || fail());
            }
            if (parts >= MOST_PARTS) {
                return fail();
            }
            parts++;
            if (sort == DIGITS && number <= MOST_NUMBER) {
                int told = number;
                next();
                return put(Script.NUMBER, told);
            }
            return ofOrders ? orderWord() : lawWord();
        }

        private boolean lawWord() {
            int word = sees("temper") ? Judge.TEMPER : sees("ire") ? Judge.IRE
                : sees("realm") ? Judge.REALM : sees("land") ? Judge.LAND
                : sees("worth") ? Judge.WORTH : sees("glue") ? Judge.GLUE
                : sees("day") ? Judge.DAY : sees("mood") ? Judge.MOOD : NONE;
            if (word == NONE) {
                return fail();
            }
            next();
            return put(Script.WORD, word);
        }

        private boolean orderWord() {
            int word = sees("day") ? Clerk.DAY : sees("done") ? Clerk.DONE
                : sees("latest") ? Clerk.LATEST : sees("free") ? Clerk.FREE
                : sees("paid") ? Clerk.PAID : sees("quarrel") ? Clerk.QUARREL
                : sees("spot") ? Clerk.SPOT : NONE;
            if (word == NONE) {
                return fail();
            }
            next();
            int choices = word == Clerk.PAID || word == Clerk.QUARREL ? MOST_LETTERS
                : word == Clerk.SPOT ? MOST_STAMPS : 0;
            if (choices > 0) {
                if (sort != DIGITS || number >= choices) {
                    return fail();
                }
                word += number;
                next();
            }
            script.words[clauseAt] |= 1 << word;
            return put(Script.WORD, word);
        }

        private boolean put(int op, int arg) {
            if (script.steps >= script.op.length) {
                return fail();
            }
            script.op[script.steps] = op;
            script.arg[script.steps] = arg;
            script.steps++;
            return true;
        }

        private boolean fail() {
            faultAt = start;
            return false;
        }

        private boolean took(String token) {
            if (!sees(token)) {
                return false;
            }
            next();
            return true;
        }

        private boolean sees(String token) {
            if (stop - start != token.length()) {
                return false;
            }
            for (int i = 0; i < token.length(); i++) {
                if (bytes[start + i] != token.charAt(i)) {
                    return false;
                }
            }
            return true;
        }

        private void next() {
            start = stop;
            while (start < length && bytes[start] == ' ') {
                start++;
            }
            stop = start;
            sort = sortAt(start);
            number = 0;
            while (stop < length && sortAt(stop) == sort && (stop == start || sort != SIGN)) {
                if (sort == DIGITS) {
                    // any number beyond the greatest is as good as another
                    number = Math.min(number * 10 + bytes[stop] - '0', MOST_NUMBER + 1);
                }
                stop++;
            }
        }

        private int sortAt(int place) {
            if (place >= length) {
                return AT_END;
            }
            byte at = bytes[place];
            return at >= 'a' && at <= 'z' ? LETTERS : at >= '0' && at <= '9' ? DIGITS : SIGN;
        }
    }

    /** What deeds change: the DAY, GLUE, where STAMPS are, LETTERS' rows and LATE. */
    private static final class Board {
        // One row of numbers, so that to keep it is one copy.
        static final int DAY_CELL = 0;
        static final int GLUE_CELL = 1;
        static final int HOME_CELL = GLUE_CELL + MOST_STAMPS;
        static final int SIZE_CELL = HOME_CELL + MOST_STAMPS;
        static final int SPOT_CELL = SIZE_CELL + MOST_LETTERS;
        static final int LATE_CELL = SPOT_CELL + MOST_LETTERS * MOST_SPOTS;
        static final int CELLS = LATE_CELL + MOST_LETTERS;

        final int[] cells;

        Board() {
            cells = new int[CELLS];
        }

        void copyFrom(Board other) {
            System.arraycopy(other.cells, 0, cells, 0, CELLS);
        }

        int today() {
            return cells[DAY_CELL];
        }

        void setDay(int day) {
            cells[DAY_CELL] = day;
        }

        int glueOf(int stamp) {
            return cells[GLUE_CELL + stamp];
        }

        void setGlue(int stamp, int glue) {
            cells[GLUE_CELL + stamp] = glue;
        }

        /** The LETTER, IN_SHEET or CANCELLED. */
        int homeOf(int stamp) {
            return cells[HOME_CELL + stamp];
        }

        void setHome(int stamp, int home) {
            cells[HOME_CELL + stamp] = home;
        }

        int letterOf(int stamp) {
            return Math.max(homeOf(stamp), NONE);
        }

        int sizeOf(int letter) {
            return cells[SIZE_CELL + letter];
        }

        void setSize(int letter, int size) {
            cells[SIZE_CELL + letter] = size;
        }

        int stampAt(int letter, int spot) {
            return cells[SPOT_CELL + letter * MOST_SPOTS + spot];
        }

        void setStampAt(int letter, int spot, int stamp) {
            cells[SPOT_CELL + letter * MOST_SPOTS + spot] = stamp;
        }

        int lateOf(int letter) {
            return cells[LATE_CELL + letter];
        }

        void setLate(int letter, int late) {
            cells[LATE_CELL + letter] = late;
        }

        int spotOf(int stamp) {
            int letter = letterOf(stamp);
            if (letter == NONE) {
                return NONE;
            }
            for (int i = 0; i < sizeOf(letter); i++) {
                if (stampAt(letter, i) == stamp) {
                    return i;
                }
            }
            return NONE;
        }
    }

    /** All that an IMAGE keeps. */
    private static final class State {
        int stamps;
        final int[] worth;
        final int[] realm;
        final int[] temper;
        int letters;
        final int[] fee;
        int heard;
        final int[] heardRight;
        final int[] heardQuarrel;
        int rain;
        int mood;
        int laws;
        final Script[] lawTexts;
        int force;
        final Board board;

        State() {
            worth = new int[MOST_STAMPS];
            realm = new int[MOST_STAMPS];
            temper = new int[MOST_STAMPS];
            fee = new int[MOST_LETTERS];
            heardRight = new int[MOST_HEARD];
            heardQuarrel = new int[MOST_HEARD];
            lawTexts = new Script[MOST_LAWS];
            board = new Board();
            rain = 1;
            force = NONE;
        }

        void copyFrom(State other) {
            stamps = other.stamps;
            letters = other.letters;
            heard = other.heard;
            rain = other.rain;
            mood = other.mood;
            laws = other.laws;
            force = other.force;
            System.arraycopy(other.worth, 0, worth, 0, MOST_STAMPS);
            System.arraycopy(other.realm, 0, realm, 0, MOST_STAMPS);
            System.arraycopy(other.temper, 0, temper, 0, MOST_STAMPS);
            System.arraycopy(other.fee, 0, fee, 0, MOST_LETTERS);
            System.arraycopy(other.heardRight, 0, heardRight, 0, MOST_HEARD);
            System.arraycopy(other.heardQuarrel, 0, heardQuarrel, 0, MOST_HEARD);
            for (int i = 0; i < MOST_LAWS; i++) {
                lawTexts[i] = other.lawTexts[i];
            }
            board.copyFrom(other.board);
        }

        int addStamp(int itsWorth, int itsRealm, int itsTemper, int glue) {
            int stamp = stamps;
            worth[stamp] = itsWorth;
            realm[stamp] = itsRealm;
            temper[stamp] = itsTemper;
            board.setGlue(stamp, glue);
            board.setHome(stamp, IN_SHEET);
            stamps++;
            return stamp;
        }

        int addLetter(int itsFee) {
            int letter = letters;
            fee[letter] = itsFee;
            board.setSize(letter, 0);
            board.setLate(letter, 0);
            letters++;
            return letter;
        }

        int addHeard(int right, int quarrel) {
            heardRight[heard] = right;
            heardQuarrel[heard] = quarrel;
            heard++;
            return heard;
        }

        int addLaw(Script text) {
            int law = laws;
            lawTexts[law] = text;
            laws++;
            return law;
        }

        int inSheet() {
            int found = 0;
            for (int s = 0; s < stamps; s++) {
                if (board.homeOf(s) == IN_SHEET) {
                    found++;
                }
            }
            return found;
        }
    }

    /** Asks the LAW in FORCE about STAMPS as they lie on a board. */
    private static final class Judge {
        static final int TEMPER = 0;
        static final int IRE = 1;
        static final int REALM = 2;
        static final int LAND = 3;
        static final int WORTH = 4;
        static final int GLUE = 5;
        static final int DAY = 6;
        static final int MOOD = 7;
        static final int WORDS = 8;

        static final int MOST_DRYING = 9;
        static final int MOST_COUNTED = 60;

        final State state;
        final Board board;
        private final int[] facts;
        private final long[] stack;

        Judge(State itsState, Board itsBoard) {
            state = itsState;
            board = itsBoard;
            facts = new int[WORDS];
            stack = new long[Script.STACK_ROOM];
        }

        int quarrel(int left, int right) {
            boolean countrymen = state.realm[left] == state.realm[right];
            int without = countrymen ? 0 : state.temper[left] + state.temper[right];
            return told(QUARRELS, left, right, without, MOST_QUARREL);
        }

        boolean barred(int left, int right) {
            return told(BARS, left, right, 0, 1) == 1;
        }

        int dries(int stamp) {
            return told(DRIES, stamp, NONE, 1, MOST_DRYING);
        }

        int counts(int stamp) {
            return told(COUNTS, stamp, NONE, state.worth[stamp], MOST_COUNTED);
        }

        int paid(int letter) {
            int together = 0;
            for (int i = 0; i < board.sizeOf(letter); i++) {
                together += counts(board.stampAt(letter, i));
            }
            return together;
        }

        int quarrelOn(int letter) {
            int together = 0;
            for (int i = 1; i < board.sizeOf(letter); i++) {
                together += quarrel(board.stampAt(letter, i - 1), board.stampAt(letter, i));
            }
            return together;
        }

        /** As the last CLAUSE of the kind that HOLDS tells, from 0 to the most; right is NONE if one is asked. */
        private int told(int kind, int left, int right, int without, int most) {
            int force = state.force;
            if (force < 0 || force >= state.laws) {
                return without;
            }
            Script law = state.lawTexts[force];
            if (law == null) {
                return without;
            }
            facts[TEMPER] = state.temper[left];
            facts[IRE] = right == NONE ? NONE : state.temper[right];
            facts[REALM] = state.realm[left];
            facts[LAND] = right == NONE ? NONE : state.realm[right];
            facts[WORTH] = state.worth[left];
            facts[GLUE] = board.glueOf(left);
            facts[DAY] = board.today();
            facts[MOOD] = state.mood;
            for (int c = law.clauses - 1; c >= 0; c--) {
                if (law.kind[c] != kind) {
                    continue;
                }
                if (law.test[c] != NONE && law.tell(law.test[c], facts, stack) != 1) {
                    continue;
                }
                // "bars" has no SUM: that it HOLDS is all it tells
                long value = law.first[c] == NONE ? 1 : law.tell(law.first[c], facts, stack);
                if (value != Script.BROKEN) {
                    return (int) Math.max(0, Math.min(value, most));
                }
            }
            return without;
        }
    }

    /** The boards as they were ahead of the latest deeds. */
    private static final class History {
        static final int MOST_KEPT = 16;
        // One more, for the deed of which it is not known yet whether it can be.
        static final int ROOM = MOST_KEPT + 1;

        private final int[] cells;
        private final int[] deeds;
        private int at;
        int kept;

        History() {
            cells = new int[ROOM * Board.CELLS];
            deeds = new int[ROOM];
        }

        void copyFrom(History other) {
            System.arraycopy(other.cells, 0, cells, 0, cells.length);
            System.arraycopy(other.deeds, 0, deeds, 0, ROOM);
            at = other.at;
            kept = other.kept;
        }

        void ahead(Board board) {
            System.arraycopy(board.cells, 0, cells, at * Board.CELLS, Board.CELLS);
        }

        /** The deed that ahead() was called for has been done. */
        void keep(int deed) {
            deeds[at] = deed;
            at = at + 1 < ROOM ? at + 1 : 0;
            kept = Math.min(kept + 1, MOST_KEPT);
        }

        int takeBack(Board board) {
            if (kept == 0) {
                return CANT_BE;
            }
            kept--;
            at = at > 0 ? at - 1 : ROOM - 1;
            System.arraycopy(cells, at * Board.CELLS, board.cells, 0, Board.CELLS);
            return deeds[at];
        }
    }

    /** Does the four deeds on its judge's board; each changes nothing where it is REFUSED. */
    private static final class Mover {
        final Judge judge;
        final State state;
        final Board board;
        private final History history;
        private final int[] drying;

        /** Without a history (null) the deeds are on paper. */
        Mover(Judge itsJudge, History itsHistory) {
            judge = itsJudge;
            state = itsJudge.state;
            board = itsJudge.board;
            history = itsHistory;
            drying = new int[MOST_STAMPS];
        }

        /** What the deed tells (0 or more), or what it is REFUSED by. */
        int act(int deed, int first, int second) {
            if (history != null) {
                history.ahead(board);
            }
            int told = deed == STICK ? stickOn(first, second) : deed == PEEL ? peelFrom(first)
                : deed == CANCEL ? cancelAll(first) : passDay();
            if (told >= 0 && history != null) {
                history.keep(deed);
            }
            return told;
        }

        private int stickOn(int stamp, int letter) {
            if (stamp < 0 || stamp >= state.stamps || letter < 0 || letter >= state.letters) {
                return NO_SUCH;
            }
            int spot = board.sizeOf(letter);
            if (board.homeOf(stamp) != IN_SHEET || board.glueOf(stamp) == 0 || spot >= MOST_SPOTS) {
                return CANT_BE;
            }
            if (spot > 0 && judge.barred(board.stampAt(letter, spot - 1), stamp)) {
                return CANT_BE;
            }
            board.setStampAt(letter, spot, stamp);
            board.setSize(letter, spot + 1);
            board.setHome(stamp, letter);
            return spot;
        }

        private int peelFrom(int letter) {
            if (letter < 0 || letter >= state.letters) {
                return NO_SUCH;
            }
            int last = board.sizeOf(letter) - 1;
            if (last < 0) {
                return CANT_BE;
            }
            int stamp = board.stampAt(letter, last);
            board.setSize(letter, last);
            board.setHome(stamp, IN_SHEET);
            return stamp;
        }

        private int cancelAll(int letter) {
            if (letter < 0 || letter >= state.letters) {
                return NO_SUCH;
            }
            if (board.sizeOf(letter) == 0 || judge.paid(letter) < state.fee[letter]) {
                return CANT_BE;
            }
            int quarrel = judge.quarrelOn(letter);
            for (int i = 0; i < board.sizeOf(letter); i++) {
                board.setHome(board.stampAt(letter, i), CANCELLED);
            }
            board.setSize(letter, 0);
            board.setLate(letter, Math.min(board.lateOf(letter) + quarrel, MOST_LATE));
            return quarrel;
        }

        private int passDay() {
            if (board.today() >= LAST_DAY) {
                return CANT_BE;
            }
            for (int s = 0; s < state.stamps; s++) {
                drying[s] = board.homeOf(s) == CANCELLED ? 0 : judge.dries(s);
            }
            for (int s = 0; s < state.stamps; s++) {
                board.setGlue(s, Math.max(board.glueOf(s) - drying[s], 0));
            }
            int fallen = 0;
            for (int letter = 0; letter < state.letters; letter++) {
                fallen += dropDry(letter);
            }
            board.setDay(board.today() + 1);
            return fallen;
        }

        private int dropDry(int letter) {
            int size = board.sizeOf(letter);
            int stay = 0;
            for (int i = 0; i < size; i++) {
                int stamp = board.stampAt(letter, i);
                if (board.glueOf(stamp) == 0) {
                    board.setHome(stamp, IN_SHEET);
                } else {
                    board.setStampAt(letter, stay, stamp);
                    stay++;
                }
            }
            board.setSize(letter, stay);
            return size - stay;
        }
    }

    /** Carries out ORDERS, wholly or not at all. */
    private static final class Clerk {
        // The words of ORDERS; those with a number behind them have a place for each number.
        static final int DAY = 0;
        static final int DONE = 1;
        static final int LATEST = 2;
        static final int FREE = 3;
        static final int PAID = 4;
        static final int QUARREL = PAID + MOST_LETTERS;
        static final int SPOT = QUARREL + MOST_LETTERS;
        static final int WORDS = SPOT + MOST_STAMPS;

        private final Mover mover;
        private final History history;
        private final Board boardAhead;
        private final History historyAhead;
        private final int[] facts;
        private final long[] stack;
        private int done;
        private int latest;
        private long firstSum;
        private long secondSum;
        int stoppedAt;

        Clerk(Mover itsMover, History itsHistory) {
            mover = itsMover;
            history = itsHistory;
            boardAhead = new Board();
            historyAhead = new History();
            facts = new int[WORDS];
            stack = new long[Script.STACK_ROOM];
            stoppedAt = NONE;
        }

        /** How many were run, or CANT_BE. */
        int carryOut(Script orders) {
            boardAhead.copyFrom(mover.board);
            historyAhead.copyFrom(history);
            done = 0;
            latest = NONE;
            for (int c = 0; c < orders.clauses; c++) {
                for (int time = 0; time < orders.times[c]; time++) {
                    if (!isDue(orders, c)) {
                        continue;
                    }
                    boolean broken = firstSum == Script.BROKEN || secondSum == Script.BROKEN;
                    int told = broken ? CANT_BE : mover.act(orders.kind[c], (int) firstSum, (int) secondSum);
                    if (told < 0) {
                        return giveUp(c);
                    }
                    if (orders.kind[c] == CANCEL) {
                        latest = told;
                    }
                    done++;
                }
            }
            return done;
        }

        private int giveUp(int clause) {
            mover.board.copyFrom(boardAhead);
            history.copyFrom(historyAhead);
            stoppedAt = clause;
            return CANT_BE;
        }

        /** Asks the CLAUSE's "if"; if that is so, its SUMS stand in the two fields. */
        private boolean isDue(Script orders, int c) {
            look(orders.words[c]);
            if (orders.test[c] != NONE && orders.tell(orders.test[c], facts, stack) != 1) {
                return false;
            }
            firstSum = orders.first[c] == NONE ? NONE : orders.tell(orders.first[c], facts, stack);
            secondSum = orders.second[c] == NONE ? NONE : orders.tell(orders.second[c], facts, stack);
            return true;
        }

        /** Finds out what the words (as bits) stand for now; the others are not asked. */
        private void look(int words) {
            Board board = mover.board;
            facts[DAY] = board.today();
            facts[DONE] = done;
            facts[LATEST] = latest;
            facts[FREE] = mover.state.inSheet();
            for (int letter = 0; letter < MOST_LETTERS; letter++) {
                boolean there = letter < mover.state.letters;
                if ((words >> PAID + letter & 1) != 0) {
                    facts[PAID + letter] = there ? mover.judge.paid(letter) : NONE;
                }
                if ((words >> QUARREL + letter & 1) != 0) {
                    facts[QUARREL + letter] = there ? mover.judge.quarrelOn(letter) : NONE;
                }
            }
            for (int s = 0; s < MOST_STAMPS; s++) {
                if ((words >> SPOT + s & 1) != 0) {
                    facts[SPOT + s] = s < mover.state.stamps ? board.spotOf(s) : NONE;
                }
            }
        }
    }

    /** Rows, BUFFERS, exchanges and sorts, on paper. */
    private static final class Plans {
        private final Judge judge;
        private final State state;
        private final Board board;
        private final int[] open;
        private final int[] worthNow;
        private final int[] quarrels;
        private final boolean[] bars;
        private final long[] reach;
        private final int[] line;
        private final int[] suits;
        private final int[] least;
        private int opened;
        private int due;
        private int leastOfTwo;
        int leastQuarrel;
        int bestSize;
        final int[] best;
        int gaps;
        final int[] chosen;
        int bestTwo;

        Plans(Judge itsJudge) {
            judge = itsJudge;
            state = itsJudge.state;
            board = itsJudge.board;
            open = new int[MOST_STAMPS];
            worthNow = new int[MOST_STAMPS];
            quarrels = new int[MOST_STAMPS * MOST_STAMPS];
            bars = new boolean[MOST_STAMPS * MOST_STAMPS];
            reach = new long[MOST_SPOTS + 1];
            line = new int[MOST_SPOTS];
            suits = new int[MOST_SPOTS];
            least = new int[MOST_FEE + 1];
            best = new int[MOST_SPOTS];
            chosen = new int[MOST_SPOTS];
        }

        /** Whether there is a row for the FEE; it stands in best then. */
        boolean makeUp(int fee) {
            due = fee;
            bestSize = NONE;
            leastQuarrel = NONE;
            findOpen();
            findReach();
            if (stillNeeded(fee, MOST_SPOTS) == NONE) {
                return false;
            }
            findQuarrels();
            extend(0, 0, 0, 0);
            return bestSize != NONE;
        }

        private void findOpen() {
            opened = 0;
            for (int s = 0; s < state.stamps; s++) {
                if (board.homeOf(s) == IN_SHEET && board.glueOf(s) > 0) {
                    open[opened] = s;
                    opened++;
                    worthNow[s] = judge.counts(s);
                }
            }
        }

        /** reach[k] has, as bits, all sums of k open STAMPS at most, were each there as often as may be. */
        private void findReach() {
            reach[0] = 1L;
            for (int k = 1; k < reach.length; k++) {
                reach[k] = reach[k - 1];
                for (int i = 0; i < opened; i++) {
                    reach[k] |= reach[k - 1] << worthNow[open[i]];
                }
            }
        }

        /** How many more STAMPS the rest of a FEE needs at least; NONE if it can't be by so many at most. */
        private int stillNeeded(int rest, int most) {
            for (int k = 0; k <= most && k < reach.length && rest >= 0; k++) {
                if ((reach[k] >> rest & 1L) != 0) {
                    return k;
                }
            }
            return NONE;
        }

        private void findQuarrels() {
            leastOfTwo = MOST_QUARREL;
            for (int i = 0; i < opened; i++) {
                for (int k = 0; k < opened; k++) {
                    if (i != k) {
                        int two = open[i] * MOST_STAMPS + open[k];
                        quarrels[two] = judge.quarrel(open[i], open[k]);
                        bars[two] = judge.barred(open[i], open[k]);
                        leastOfTwo = Math.min(leastOfTwo, quarrels[two]);
                    }
                }
            }
        }

        private boolean isBetter(int quarrel, int size) {
            return bestSize == NONE || quarrel < leastQuarrel || quarrel == leastQuarrel && size < bestSize;
        }

        /** Goes on with the line in the order of rows; used has the STAMPS that lie in it, as bits. */
        private void extend(int size, int sum, int quarrel, int used) {
            if (sum == due && isBetter(quarrel, size)) {
                leastQuarrel = quarrel;
                bestSize = size;
                System.arraycopy(line, 0, best, 0, size);
            }
            if (size >= MOST_SPOTS) {
                return;
            }
            for (int i = 0; i < opened; i++) {
                int stamp = open[i];
                int more = sum + worthNow[stamp];
                int needed = stillNeeded(due - more, MOST_SPOTS - size - 1);
                if ((used >> stamp & 1) != 0 || needed == NONE) {
                    continue;
                }
                int quarrelThen = quarrel;
                if (size > 0) {
                    int two = line[size - 1] * MOST_STAMPS + stamp;
                    if (bars[two]) {
                        continue;
                    }
                    quarrelThen += quarrels[two];
                }
                // a row that can't become better is not gone on with
                if (isBetter(quarrelThen + needed * leastOfTwo, size + 1 + needed)) {
                    line[size] = stamp;
                    extend(size + 1, more, quarrelThen, used | 1 << stamp);
                }
            }
        }

        /** Whether all gaps that need one can have a buffer; they stand in chosen then. */
        boolean findBuffers(int letter) {
            gaps = 0;
            for (int i = 1; i < board.sizeOf(letter); i++) {
                int left = board.stampAt(letter, i - 1);
                int right = board.stampAt(letter, i);
                if (judge.quarrel(left, right) > 0) {
                    suits[gaps] = suitable(left, right);
                    gaps++;
                }
            }
            return fill(0, 0);
        }

        private int suitable(int left, int right) {
            int bits = 0;
            for (int s = 0; s < state.stamps; s++) {
                if (board.homeOf(s) == IN_SHEET && board.glueOf(s) > 0 && lieWell(left, s) && lieWell(s, right)) {
                    bits |= 1 << s;
                }
            }
            return bits;
        }

        private boolean lieWell(int left, int right) {
            return judge.quarrel(left, right) == 0 && !judge.barred(left, right);
        }

        private boolean fill(int gap, int used) {
            if (gap >= gaps) {
                return true;
            }
            for (int s = 0; s < state.stamps; s++) {
                if ((suits[gap] & ~used & 1 << s) != 0) {
                    chosen[gap] = s;
                    if (fill(gap + 1, used | 1 << s)) {
                        return true;
                    }
                }
            }
            return false;
        }

        /** Whether an exchange of two makes less QUARREL; the best stands in bestTwo then. */
        boolean findExchange(int letter) {
            int now = judge.quarrelOn(letter);
            leastQuarrel = now;
            for (int low = 0; low < board.sizeOf(letter); low++) {
                for (int high = low + 1; high < board.sizeOf(letter); high++) {
                    int then = quarrelExchanged(letter, low, high);
                    if (then < leastQuarrel) {
                        leastQuarrel = then;
                        bestTwo = 10 * low + high;
                    }
                }
            }
            return leastQuarrel < now;
        }

        private int quarrelExchanged(int letter, int low, int high) {
            int together = 0;
            for (int i = 0; i < board.sizeOf(letter); i++) {
                line[i] = board.stampAt(letter, i == low ? high : i == high ? low : i);
                if (i > 0) {
                    together += judge.quarrel(line[i - 1], line[i]);
                }
            }
            return together;
        }

        /** The fewest sorts for FEES 1 .. f, as bits; NONE. */
        int findSorts(int f) {
            for (int s = 0; s < state.stamps; s++) {
                worthNow[s] = judge.counts(s);
            }
            // bits 1 .. f
            long wanted = (1L << f + 1) - 2L;
            int all = (1 << state.stamps) - 1;
            if ((allSums(all) & wanted) != wanted) {
                return NONE;
            }
            int found = all;
            int fewestSorts = state.stamps;
            for (int bits = 1; bits < all; bits++) {
                int size = Integer.bitCount(bits);
                if (size < fewestSorts && (allSums(bits) & wanted) == wanted) {
                    found = bits;
                    fewestSorts = size;
                }
            }
            return found;
        }

        /** All sums of five at most of the sorts, as bits. */
        private long allSums(int sorts) {
            long sums = 1L;
            for (int k = 0; k < MOST_SPOTS; k++) {
                long shorter = sums;
                for (int s = 0; s < state.stamps; s++) {
                    if ((sorts >> s & 1) != 0) {
                        sums |= shorter << worthNow[s];
                    }
                }
            }
            return sums;
        }

        int findFewest(int fee, int sorts) {
            for (int s = 0; s < state.stamps; s++) {
                worthNow[s] = (sorts >> s & 1) != 0 ? judge.counts(s) : 0;
            }
            least[0] = 0;
            for (int sum = 1; sum <= fee; sum++) {
                least[sum] = NONE;
                for (int s = 0; s < state.stamps; s++) {
                    int rest = sum - worthNow[s];
                    if (worthNow[s] > 0 && rest >= 0 && least[rest] != NONE
                        && (least[sum] == NONE || least[rest] + 1 < least[sum])) {
                        least[sum] = least[rest] + 1;
                    }
                }
            }
            return least[fee];
        }
    }

    /** Who quarrels with whom: kin, POCKETS, which STAMP it can be. */
    private static final class Guess {
        private final Judge judge;
        private final State state;
        private final int[] friends;
        private final int[] pockets;
        private final int[] alike;
        final int[] pocketOf;
        int bestRight;
        int leftAtMost;

        Guess(Judge itsJudge) {
            judge = itsJudge;
            state = itsJudge.state;
            friends = new int[MOST_STAMPS];
            pockets = new int[MOST_STAMPS];
            alike = new int[MOST_QUARREL + 1];
            pocketOf = new int[MOST_STAMPS];
        }

        /** All with which the STAMP QUARRELS neither way, itself aside, as bits. */
        int friendsOf(int stamp) {
            int bits = 0;
            for (int s = 0; s < state.stamps; s++) {
                if (s != stamp && judge.quarrel(stamp, s) == 0 && judge.quarrel(s, stamp) == 0) {
                    bits |= 1 << s;
                }
            }
            return bits;
        }

        /** How many POCKETS are needed; which STAMP is in which stands in pocketOf then. */
        int findPockets() {
            boolean any = false;
            for (int s = 0; s < state.stamps; s++) {
                boolean there = judge.board.homeOf(s) == IN_SHEET;
                any |= there;
                pocketOf[s] = there ? 0 : NOT_IN_SHEET;
                friends[s] = there ? friendsOf(s) : 0;
            }
            if (!any) {
                return 0;
            }
            for (int most = 1; most < MOST_STAMPS; most++) {
                if (part(0, 0, most)) {
                    return most;
                }
            }
            part(0, 0, MOST_STAMPS);
            return MOST_STAMPS;
        }

        /** Puts the STAMPS from that one on into pockets, each into the first that lets all others in. */
        private boolean part(int stamp, int filled, int most) {
            if (stamp >= state.stamps) {
                return true;
            }
            if (pocketOf[stamp] == NOT_IN_SHEET) {
                return part(stamp + 1, filled, most);
            }
            for (int p = 0; p <= filled && p < most; p++) {
                int inside = p < filled ? pockets[p] : 0;
                if ((inside & ~friends[stamp]) != 0) {
                    continue;
                }
                pockets[p] = inside | 1 << stamp;
                pocketOf[stamp] = p;
                if (part(stamp + 1, Math.max(filled, p + 1), most)) {
                    return true;
                }
                pockets[p] = inside;
            }
            return false;
        }

        /** All that would QUARREL as it was HEARD, as bits. */
        int suspects() {
            int bits = 0;
            for (int s = 0; s < state.stamps; s++) {
                if (wouldQuarrelSo(s)) {
                    bits |= 1 << s;
                }
            }
            return bits;
        }

        private boolean wouldQuarrelSo(int stamp) {
            for (int h = 0; h < state.heard; h++) {
                int right = state.heardRight[h];
                if (right == stamp || judge.quarrel(stamp, right) != state.heardQuarrel[h]) {
                    return false;
                }
            }
            return true;
        }

        /** Whether any can be; beside which to put it stands in bestRight then. */
        boolean findBeside() {
            int bits = suspects();
            bestRight = NONE;
            leftAtMost = NONE;
            for (int right = 0; right < state.stamps && bits != 0; right++) {
                int most = mostAlike(bits, right);
                if (bestRight == NONE || most < leftAtMost) {
                    bestRight = right;
                    leftAtMost = most;
                }
            }
            return bestRight != NONE;
        }

        private int mostAlike(int bits, int right) {
            for (int q = 0; q <= MOST_QUARREL; q++) {
                alike[q] = 0;
            }
            int most = 0;
            for (int s = 0; s < state.stamps; s++) {
                if ((bits >> s & 1) == 0) {
                    continue;
                }
                int together = 1;
                if (s != right) {
                    int quarrel = judge.quarrel(s, right);
                    alike[quarrel]++;
                    together = alike[quarrel];
                }
                most = Math.max(most, together);
            }
            return most;
        }
    }

    /** The latest REIGNS, on a board of their own. */
    private static final class Reign {
        private final State state;
        private final Mover mover;
        private long drawnLast;
        final Board board;
        int stamps;
        int letters;

        Reign(State itsState) {
            state = itsState;
            board = new Board();
            mover = new Mover(new Judge(itsState, board), null);
        }

        /** How many LETTERS were CANCELLED; there are STAMPS and LETTERS. */
        int run(int seed, int n) {
            board.copyFrom(state.board);
            stamps = state.stamps;
            letters = state.letters;
            drawnLast = seed;
            int cancelled = 0;
            for (int time = 0; time < n && board.today() < LAST_DAY; time++) {
                int stamp = draw(stamps);
                int letter = draw(letters);
                int what = draw(4);
                if (what <= 1) {
                    mover.act(STICK, stamp, letter);
                } else if (what == 2) {
                    mover.act(PEEL, letter, NONE);
                } else if (mover.act(CANCEL, letter, NONE) >= 0) {
                    cancelled++;
                }
                mover.act(PASS, NONE, NONE);
            }
            return cancelled;
        }

        private int draw(int m) {
            drawnLast = (drawnLast * 1103 + 12345) % 1_000_003;
            return m > 0 ? (int) (drawnLast % m) : 0;
        }
    }
}
