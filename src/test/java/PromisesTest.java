/** Every promise by hand: what is ordinary, the edges that the document names, and wrong inputs. */
public final class PromisesTest {
    private static int wrong = 0;
    private static int asked = 0;

    private static void due(String what, long got, long want) {
        asked++;
        if (got != want) {
            wrong++;
            System.out.println(what + " answered " + got + ", due is " + want);
        }
    }

    private static StampQuarrels write(StampQuarrels x, String text) {
        return Tape.write(x, text);
    }

    private static StampQuarrels lawful(StampQuarrels x, String law) {
        x.force(write(x, law).law());
        return x;
    }

    private static int faultOfLaw(String text) {
        StampQuarrels x = new StampQuarrels();
        write(x, text).law();
        return x.fault();
    }

    private static int faultOfOrders(String text) {
        StampQuarrels x = new StampQuarrels();
        write(x, text).orders();
        return x.fault();
    }

    private static String times(int n, String text, String between) {
        StringBuilder b = new StringBuilder();
        for (int i = 0; i < n; i++) {
            b.append(i > 0 ? between : "").append(text);
        }
        return b.toString();
    }

    /** Stamps 0 .. 4: worths 5 5 10 3 2, realms 0 1 0 2 3, tempers 3 4 2 0 0, glue 9 9 1 9 5; fees 10, 20. */
    private static StampQuarrels counter() {
        StampQuarrels x = new StampQuarrels();
        x.stamp(5, 0, 3, 9);
        x.stamp(5, 1, 4, 9);
        x.stamp(10, 0, 2, 1);
        x.stamp(3, 2, 0, 9);
        x.stamp(2, 3, 0, 5);
        x.letter(10);
        x.letter(20);
        return x;
    }

    public static void main(String[] args) {
        newObject();
        stamps();
        letters();
        asking();
        terms();
        tape();
        rows();
        laws();
        lawMeaning();
        brokenSums();
        lawFaults();
        orders();
        orderWords();
        orderFaults();
        forces();
        sticking();
        peelingAndCancelling();
        days();
        undoing();
        undoLimits();
        makingUp();
        buffering();
        bufferingByTheFirst();
        exchanging();
        pocketing();
        hearing();
        besides();
        sorting();
        holding();
        kinAndCompare();
        reigning();
        images();
        imagesOfLaws();
        countsAndStatus();
        System.out.println(wrong == 0 ? asked + " answers are as due" : wrong + " of " + asked + " answers are not as due");
        if (wrong != 0) {
            System.exit(1);
        }
    }

    private static void newObject() {
        StampQuarrels x = new StampQuarrels();
        int[] want = {0, 0, 0, 0, 0, 0, 0, 0, 0, 0, 0, 0, -1, 0, 1, 0};
        for (int what = 0; what < want.length; what++) {
            due("1: count(" + what + ") of a new object", x.count(what), want[what]);
        }
        due("1: status()", x.status(), 0);
        due("1: fault()", x.fault(), -1);
        due("1: stopped()", x.stopped(), -1);
        due("1: misprints()", x.misprints(), 0);
        due("1: canBe()", x.canBe(), 0);
        due("1: NONE", StampQuarrels.NONE, -1);
    }

    private static void stamps() {
        StampQuarrels x = new StampQuarrels();
        due("2: lowest", x.stamp(1, 0, 0, 0), 0);
        due("2: highest", x.stamp(20, 5, 9, 9), 1);
        int[][] bad = {{0, 0, 0, 0}, {21, 0, 0, 0}, {1, -1, 0, 0}, {1, 6, 0, 0}, {1, 0, -1, 0}, {1, 0, 10, 0}, {1, 0, 0, -1}, {1, 0, 0, 10},
            {Integer.MIN_VALUE, 0, 0, 0}, {1, 0, 0, Integer.MAX_VALUE}};
        for (int[] b : bad) {
            due("2: wrong numbers", x.stamp(b[0], b[1], b[2], b[3]), -1);
        }
        for (int i = 2; i < 10; i++) {
            due("2: number", x.stamp(7, 3, 4, 5), i);
        }
        due("2: no room", x.stamp(1, 0, 0, 0), -5);
        due("2: wrong number ahead of no room", x.stamp(0, 0, 0, 0), -1);
        int[] want = {20, 5, 9, 9, -1, -1, 0, 20, 1, -1};
        for (int what = 0; what < want.length; what++) {
            due("3: of(1, " + what + ")", x.of(1, what), want[what]);
        }
        due("3: of(1, -1)", x.of(1, -1), -1);
        due("3: of(10, 0)", x.of(10, 0), -1);
        due("3: of(-1, 0)", x.of(-1, 0), -1);
        x.letter(40);
        x.stick(2, 0);
        x.stick(1, 0);
        due("3: its letter", x.of(1, 4), 0);
        due("3: its spot", x.of(1, 5), 1);
        due("3: not in the sheet", x.count(1), 8);
        x.stick(3, 0);
        x.stick(4, 0);
        x.cancel(0);
        due("3: cancelled", x.of(1, 6), 1);
        due("3: cancelled, on no letter", x.of(1, 4), -1);
        due("3: cancelled, on no spot", x.of(1, 5), -1);
    }

    private static void letters() {
        StampQuarrels x = new StampQuarrels();
        due("4: below", x.letter(-1), -1);
        due("4: above", x.letter(61), -1);
        due("4: first", x.letter(0), 0);
        due("4: second", x.letter(60), 1);
        due("4: third", x.letter(7), 2);
        due("4: no room", x.letter(7), -5);
        due("4: wrong number ahead of no room", x.letter(61), -1);
        x = counter();
        x.stick(0, 0);
        x.stick(1, 0);
        x.stick(4, 0);
        int[] want = {10, 3, 12, 11, 0, 0, 1, 4, -1, -1, -1};
        for (int what = 0; what < want.length; what++) {
            due("5: at(0, " + what + ")", x.at(0, what), want[what]);
        }
        due("5: at(0, -1)", x.at(0, -1), -1);
        due("5: at(0, far)", x.at(0, Integer.MAX_VALUE), -1);
        due("5: at(0, far below)", x.at(0, Integer.MIN_VALUE), -1);
        due("5: no such", x.at(2, 0), -1);
        due("5: none below", x.at(-1, 0), -1);
        due("5: an empty one", x.at(1, 5), -1);
        x.cancel(0);
        due("5: LATE", x.at(0, 4), 11);
        due("5: LATE of another", x.at(1, 4), 0);
        x = new StampQuarrels();
        for (int i = 0; i < 9; i++) {
            x.stamp(1, i % 3, i, 9);
        }
        for (int i = 0; i < 3; i++) {
            x.letter(i);
            x.stick(2 * i, i);
            x.stick(2 * i + 1, i);
        }
        due("5: first", x.cancel(0), 1);
        due("5: second", x.cancel(1), 5);
        due("5: third", x.cancel(2), 9);
        due("5: LATE 0", x.at(0, 4), 1);
        due("5: LATE 1", x.at(1, 4), 5);
        due("5: LATE 2", x.at(2, 4), 9);
    }

    private static void asking() {
        StampQuarrels x = counter();
        due("6: both tempers", x.asks(0, 1, 0), 7);
        due("6: one realm", x.asks(0, 2, 0), 0);
        due("6: none barred", x.asks(0, 1, 1), 0);
        due("6: itself", x.asks(1, 1, 0), -1);
        due("6: no such left", x.asks(5, 1, 0), -1);
        due("6: no such right", x.asks(1, 5, 1), -1);
        due("6: no such what", x.asks(0, 1, 2), -1);
        due("6: below", x.asks(-1, 1, 0), -1);
        lawful(x, "bars if temper > ire");
        due("6: barred", x.asks(0, 2, 1), 1);
        due("6: not barred the other way", x.asks(2, 0, 1), 0);
    }

    private static void terms() {
        StampQuarrels x = counter();
        due("7: day", x.terms(0, 999), 0);
        due("7: rain", x.terms(1, 10), 1);
        due("7: mood", x.terms(2, 9), 0);
        due("7: day was", x.terms(0, 0), 999);
        due("7: rain was", x.terms(1, 0), 10);
        due("7: mood was", x.terms(2, 3), 9);
        int[][] bad = {{0, 1000}, {0, -1}, {1, 11}, {1, -1}, {2, 10}, {2, -1}, {3, 0}, {-1, 0}};
        for (int[] b : bad) {
            due("7: wrong", x.terms(b[0], b[1]), -1);
        }
        due("7: mood stays", x.count(15), 3);
        due("7: no stamps needed", x.count(13), 0);
        lawful(x, "counts mood * 10 + day");
        x.terms(0, 7);
        due("7: a law asks them", x.of(0, 7), 37);
    }

    private static void tape() {
        StampQuarrels x = new StampQuarrels();
        due("8: one more than 400", feedOften(x, 19), 380);
        due("8: just 400", x.feed(0, 0, 0, 0, 0), 400);
        due("8: more", x.feed(0, 0, 0, 0, 0), -1);
        due("8: as it was", x.count(6), 400);
        due("9: cut", x.end(381), 381);
        due("8: 401 would be too many", x.feed(0, 0, 0, 0, 0), -1);
        due("9: not so many", x.end(382), -1);
        due("9: below", x.end(-1), -1);
        due("9: all", x.end(381), 381);
        due("9: none", x.end(0), 0);
        due("9: none is there", x.end(1), -1);
        due("8: no refusal", x.count(7) + x.status(), 0);
        // the highest byte first, each from 0 to 255
        x.feed(0x01020304, 0x14050909, 0xFF000000, 0x00000000, 0x80000000);
        due("8: the order of bytes", x.row(), 2);
        due("8: worth", x.of(0, 0), 1);
        due("8: realm", x.of(0, 1), 2);
        due("8: temper", x.of(0, 2), 3);
        due("8: glue", x.of(0, 3), 4);
        due("8: worth of the next", x.of(1, 0), 20);
    }

    private static int feedOften(StampQuarrels x, int n) {
        int got = 0;
        for (int i = 0; i < n; i++) {
            got = x.feed(0, 0, 0, 0, 0);
        }
        return got;
    }

    private static void rows() {
        StampQuarrels x = new StampQuarrels();
        due("10: empty", x.row(), -6);
        due("11: ahead of any", x.misprints(), 0);
        String good = "\u0005\u0001\u0002\u0003";
        write(x, good + "\u0000\u0000\u0000\u0000" + good + "\u0005\u0006\u0000\u0000" + "\u0005\u0000");
        due("10: two", x.row(), 2);
        due("11: three", x.misprints(), 3);
        due("10: the tape is empty", x.count(6), 0);
        due("10: empty again", x.row(), -6);
        due("11: stays", x.misprints(), 3);
        write(x, times(12, good, ""));
        due("10: no room for all", x.row(), 8);
        due("11: no room is a misprint", x.misprints(), 4);
        StampQuarrels y = write(new StampQuarrels(), good);
        due("10: just four bytes", y.row(), 1);
        due("11: none", y.misprints(), 0);
        write(x, good);
        due("10: none came, not refused", x.row(), 0);
        due("10: status", x.status(), 0);
        due("11: one", x.misprints(), 1);
    }

    private static void laws() {
        StampQuarrels x = new StampQuarrels();
        due("12: empty", x.law(), -6);
        due("14: at the end", x.fault(), 0);
        write(x, "   ");
        due("12: blanks alone", x.law(), -6);
        due("14: at the end of blanks", x.fault(), 3);
        for (int i = 0; i < 6; i++) {
            write(x, " bars ");
            due("12: number", x.law(), i);
            due("14: none", x.fault(), -1);
            due("12: the tape is empty", x.count(6), 0);
            if (i == 4) {
                write(x, "bars;");
                due("12: a fault", x.law(), -6);
                due("14: at the end behind ;", x.fault(), 5);
            }
        }
        StampQuarrels y = new StampQuarrels();
        for (int i = 0; i < 6; i++) {
            write(y, "peel " + times(40, "paid 0", "+") + " times 20 if 1=2");
            due("13: many texts", y.orders(), 0);
            write(y, "counts 9-" + times(45, "1", "+") + ";dries " + i);
            due("12: many texts", y.law(), i);
        }
        y.stamp(3, 0, 0, 0);
        y.force(3);
        due("12: of many texts", y.of(0, 8), 3);
        due("12: of many texts, all of it", y.of(0, 7), 52);
        write(x, "x");
        due("12: no room ahead of reading", x.law(), -5);
        due("14: nothing was read", x.fault(), -1);
        due("12: the tape is empty all the same", x.count(6), 0);
        due("12: count", x.count(4), 6);
    }

    private static void lawMeaning() {
        StampQuarrels x = counter();
        lawful(x, "quarrels 3;quarrels temper*10+ire if realm<land;quarrels 5 if worth=10;dries glue/2;counts worth*worth-26;bars if land=3 and not ire>0 or realm=2");
        due("12: the last that holds", x.asks(2, 1, 0), 5);
        due("12: cut to the most", x.asks(0, 1, 0), 20);
        due("12: an earlier one", x.asks(1, 0, 0), 3);
        due("12: left and right", x.asks(3, 4, 0), 0);
        due("12: dries", x.of(0, 8), 4);
        due("12: dries least", x.of(2, 8), 0);
        due("12: counts below 0", x.of(0, 7), 0);
        due("12: counts beyond 60", x.of(2, 7), 60);
        due("12: bars by land", x.asks(0, 4, 1), 1);
        due("12: bars by realm", x.asks(3, 0, 1), 1);
        due("12: no bar", x.asks(0, 1, 1), 0);
        x = counter();
        lawful(x, "dries 10-ire-land if ire=land;counts 30+ire+land");
        due("12: ire, land of one are -1", x.of(0, 8), 9);
        due("12: ire, land of one", x.of(0, 7), 28);
        x = lawful(counter(), "dries 0-5;counts 61;quarrels 0-1");
        due("12: the nearest, dries", x.of(0, 8), 0);
        due("12: the nearest, counts", x.of(0, 7), 60);
        due("12: the nearest, quarrels", x.asks(0, 1, 0), 0);
        x = lawful(counter(), "bars");
        due("12: bars all", x.asks(3, 4, 1), 1);
        due("12: others as without", x.asks(0, 1, 0), 7);
        due("12: without, dries", x.of(0, 8), 1);
        due("12: without, counts", x.of(0, 7), 5);
        x = lawful(counter(), "counts 7/[0-2]+10;quarrels [0-7]%4+10");
        due("12: / cut towards 0", x.of(0, 7), 7);
        due("12: % what is left", x.asks(0, 1, 0), 7);
        x = lawful(counter(), "counts 2+3*4-10/3%2;quarrels 20-5-3");
        due("12: * ahead of +", x.of(0, 7), 13);
        due("12: from the left", x.asks(0, 1, 0), 12);
        x = lawful(counter(), "counts 1 if 1=2 or 1=1 and 1=2;quarrels 1 if (1=1 or 1=2) and not not 1<2");
        due("12: and ahead of or", x.of(0, 7), 5);
        due("12: brackets, not", x.asks(0, 1, 0), 1);
        x = lawful(counter(), "counts 0017;dries1if1=1;quarrels temper-ire");
        due("12: digits may begin with 0", x.of(0, 7), 17);
        due("12: tokens without blanks", x.of(0, 8), 1);
        due("12: the left one's temper", x.asks(0, 2, 0), 1);
        due("12: the right one's ire", x.asks(2, 0, 0), 0);
    }

    private static void brokenSums() {
        String[] broken = {"1/0", "1%0", "1000*1000*1000+1", "0-1000*1000*1000-1", "1000*1000*1000*2/1000", "[1/0]*0", "0/[1-1]"};
        for (String sum : broken) {
            due("12: broken " + sum, lawful(counter(), "counts 9;counts " + sum).of(0, 7), 9);
            due("12: broken if " + sum, lawful(counter(), "counts 9;counts 1 if " + sum + "=" + sum).of(0, 7), 9);
            due("12: broken, not", lawful(counter(), "counts 9;counts 1 if not " + sum + "=1").of(0, 7), 9);
            due("12: broken, or", lawful(counter(), "counts 9;counts 1 if " + sum + "=1 or 1=1").of(0, 7), 9);
            due("12: or not asked", lawful(counter(), "counts 9;counts 1 if 1=1 or " + sum + "=1").of(0, 7), 1);
            due("12: and not asked", lawful(counter(), "counts 9;counts 1 if not (1=2 and " + sum + "=1)").of(0, 7), 1);
            due("12: and asked", lawful(counter(), "counts 9;counts 1 if not (1=1 and " + sum + "=1)").of(0, 7), 9);
            due("12: or behind and", lawful(counter(), "counts 9;counts 1 if 1=2 and " + sum + "=1 or 1=1").of(0, 7), 1);
            due("12: bars broken", lawful(counter(), "bars if " + sum + "=1 or 1=1").asks(0, 1, 1), 0);
        }
        due("12: just the limit", lawful(counter(), "counts 1000*1000*1000/1000/1000/100").of(0, 7), 10);
        due("12: just the limit below", lawful(counter(), "counts [0-1000*1000*1000]/1000/1000+1000+1").of(0, 7), 1);
    }

    private static void lawFaults() {
        Object[][] cases = {
            {"quarrels", 8}, {"quarrel 1", 0}, {"dries 1001", 6}, {"dries 1000", -1}, {"bars 1", 5}, {"bars if ire", 11},
            {"counts [1", 9}, {"bars if (glue = 1", 17}, {"dries free", 6}, {"bars ;", 6}, {";bars", 0}, {"bars;;bars", 5},
            {"bars if 1=1=1", 11}, {"bars if (1)=1", 10}, {"bars if 1", 9}, {"bars if not", 11}, {"bars if 1=1 and", 15},
            {"bars if 1=1 and or", 16}, {"quarrels (1)", 9}, {"quarrels 1]", 10}, {"quarrels -1", 9}, {"quarrels 1 if", 13},
            {"quarrels 1 if 1=1 if 1=1", 18}, {"Bars", 0}, {"bars\t", 4}, {"barsx", 0}, {"bars if 1==1", 10}, {"bars times 2", 5},
            {"quarrels 1 2", 11}, {"quarrels temper ire", 16}, {"quarrels [1=1]", 11}, {"bars if (1=1))", 13}, {"quarrels 99999999999999999999", 9},
            {"bars  ", -1}, {"dries done", 6}, {"dries paid 0", 6}, {"stick 0 on 0", 0}, {"bars\u00ff", 4}, {"counts 1+", 9}, {"counts 1+  ", 11}};
        for (Object[] c : cases) {
            due("14: fault of " + c[0], faultOfLaw((String) c[0]), (Integer) c[1]);
        }
        due("14: 12 clauses", faultOfLaw(times(12, "bars", ";")), -1);
        due("14: 13 clauses", faultOfLaw(times(13, "bars", "; ")), 12 * 6);
        due("14: 12 clauses and ;", faultOfLaw(times(12, "bars", ";") + ";"), 60);
        due("14: 50 parts", faultOfLaw("counts " + times(50, "1", "+")), -1);
        due("14: 51 parts", faultOfLaw("counts " + times(51, "1", "+")), 7 + 100);
        due("14: 51 parts of two clauses", faultOfLaw("counts " + times(25, "day", "+") + ";bars if 1=" + times(25, "1", "+")), 7 + 99 + 11 + 48);
        due("14: 8 brackets", faultOfLaw("counts " + times(8, "[", "") + "1" + times(8, "]", "")), -1);
        due("14: 9 brackets", faultOfLaw("counts " + times(9, "[", "") + "1" + times(9, "]", "")), 15);
        due("14: 8 of both kinds", faultOfLaw("bars if ((((([[[1]]]=1)))))"), -1);
        due("14: 9 of both kinds", faultOfLaw("bars if ((((([[[[1]]]]=1)))))"), 16);
        due("14: 9 round ones", faultOfLaw("bars if " + times(9, "(", "") + "1=1" + times(9, ")", "")), 16);
        due("14: side by side", faultOfLaw("counts " + times(12, "[1]", "+")), -1);
        due("14: a longer word", faultOfLaw("barsz"), 0);
        due("14: a longer word, a", faultOfLaw("abars"), 0);
        due("14: a whole tape", faultOfLaw(times(99, "    ", "") + "bars"), -1);
        due("14: a whole tape, blanks behind", faultOfLaw("bars" + times(99, "    ", "")), -1);
        due("14: a whole tape, not ended", faultOfLaw(times(99, "    ", "") + "   x"), 399);
        due("14: a whole tape of nots", faultOfLaw("bars if " + times(98, "not ", "")), 400);
        due("14: many nots", faultOfLaw("bars if " + times(90, "not ", "") + "1=1"), -1);
        due("12: many nots", lawful(counter(), "bars if " + times(91, "not ", "") + "1=1").asks(0, 1, 1), 0);
        due("12: many nots, even", lawful(counter(), "bars if " + times(92, "not ", "") + "1=1").asks(0, 1, 1), 1);
    }

    private static void orders() {
        StampQuarrels x = counter();
        due("13: empty", x.orders(), -6);
        due("14: empty", x.fault(), 0);
        write(x, "stick 0 on 0;stick 1 on 0;cancel 0;pass times 2");
        due("13: all run", x.orders(), 5);
        due("13: late", x.at(0, 4), 7);
        due("13: day", x.count(13), 2);
        due("15: none", x.stopped(), -1);
        due("13: undone one by one", x.count(5), 5);
        due("13: tape", x.count(6), 0);
        write(x, "pass;stick 3 on 0;stick 0 on 0;pass");
        due("13: one can't be", x.orders(), -3);
        due("15: which", x.stopped(), 2);
        due("13: as it was, day", x.count(13), 2);
        due("13: as it was, letter", x.at(0, 1), 0);
        due("13: as it was, undo", x.count(5), 5);
        due("13: as it was, glue", x.of(3, 3), 7);
        due("13: status", x.status(), -3);
        due("14: no fault", x.fault(), -1);
        due("13: what is undone is right", x.undo(), 3);
        due("13: the day", x.count(13), 1);
        write(x, "pass;x");
        due("13: a fault", x.orders(), -6);
        due("15: none could not be", x.stopped(), -1);
        due("13: nothing run", x.count(13), 1);
        write(x, "stick 7 on 0");
        due("13: no such stamp", x.orders(), -3);
        write(x, "stick 3 on 2");
        due("13: no such letter", x.orders(), -3);
        write(x, "peel 0-1");
        due("13: no letter below 0", x.orders(), -3);
        write(x, "pass;pass 1");
        x.orders();
        due("14: pass takes none", x.fault(), 10);
        write(x, "stick 1/0 on 0");
        due("13: broken sum", x.orders(), -3);
        write(x, "stick 3 on 1/0");
        due("13: broken second sum", x.orders(), -3);
        write(x, "pass if 1/0=1;peel 0 if 1=2");
        due("13: broken if, if not so", x.orders(), 0);
        due("13: not refused", x.status(), 0);
        due("13: refusals of deeds aside", x.count(8), 0);
        x.terms(0, 998);
        write(x, "pass times 2");
        due("13: the last day", x.orders(), -3);
        due("13: as it was", x.count(13), 998);
    }

    private static void orderWords() {
        StampQuarrels x = counter();
        write(x, "pass times 20 if day<3;stick done on 0 if done=3;stick 4 on done-3");
        due("13: if is asked each time", x.orders(), 5);
        due("13: stamp 3 is stuck", x.of(3, 4), 0);
        due("13: stamp 4 is stuck", x.of(4, 4), 1);
        x = counter();
        write(x, "pass if latest=0-1;stick 0 on 0;stick 1 on 0;cancel 0;pass if latest=7;pass if latest=7 and free=3 and paid 0=0");
        due("13: latest, free, paid", x.orders(), 6);
        x = counter();
        write(x, "pass if latest=0-1");
        due("13: latest is of this text", x.orders(), 1);
        x = counter();
        x.stick(1, 1);
        x.stick(0, 1);
        write(x, "pass if paid 1=10;pass if quarrel 1=7;pass if paid 2=0-1;pass if quarrel 2=0-1;pass if spot 1=0 and spot 0=1;pass if spot 2=0-1 and spot 9=0-1;pass if quarrel 0=0");
        due("13: words of letters and stamps", x.orders(), 7);
        due("13: the days", x.count(13), 7);
        x = counter();
        x.terms(0, 50);
        write(x, "pass times 20 if day<53;pass if done=4;stick 3 on 0 if spot 3=0-1;stick 4 on 0 if spot 3=0;stick 1 on 0 if spot 4=1 and free=3");
        due("13: day is not done", x.orders(), 6);
        due("13: spots as they are then", x.at(0, 7), 1);
        x = counter();
        write(x, "pass times 4 if done%2=0");
        due("13: done counts what was run", x.orders(), 1);
        x = lawful(counter(), "counts worth+day;quarrels day");
        write(x, "stick 0 on 0;pass times 3;pass if paid 0=8;stick 1 on 0;pass if quarrel 0=4");
        due("13: the law is asked anew", x.orders(), 7);
    }

    private static void orderFaults() {
        Object[][] cases = {
            {"stick 1 to 2", 8}, {"stick 1", 7}, {"peel", 4}, {"cancel paid 3", 12}, {"pass times 0", 11}, {"peel spot 10", 10},
            {"pass times 21", 11}, {"pass times 20", -1}, {"pass times", 10}, {"pass times day", 11}, {"pass times 1+1", 12},
            {"pass if 1=1 times 2", 12}, {"pass times 2 times 2", 13}, {"peel temper", 5}, {"peel paid", 9}, {"peel paid day", 10},
            {"peel quarrel 3", 13}, {"peel quarrel 2", -1}, {"peel spot 9", -1}, {"peel spot 0+paid 2", -1}, {"quarrels 1", 0},
            {"stick 1 on", 10}, {"stick on 1", 6}, {"peel 1 on 1", 7}, {"pass;", 5}, {"pass times 020", -1}, {"peel 1001", 5}, {"peel paid [1]", 10}};
        for (Object[] c : cases) {
            due("14: fault of " + c[0], faultOfOrders((String) c[0]), (Integer) c[1]);
        }
        due("14: L and TIMES are no parts", faultOfOrders("peel " + times(50, "paid 0", "+") + " times 3"), -1);
        due("14: 51 words", faultOfOrders("peel " + times(51, "paid 0", "+")), 5 + 50 * 7);
        due("14: 13 clauses", faultOfOrders(times(13, "pass", ";")), 60);
        due("14: 9 brackets", faultOfOrders("peel [[[[[[[[[1]]]]]]]]]"), 13);
    }

    private static void forces() {
        StampQuarrels x = counter();
        due("16: no such", x.force(0), -2);
        due("16: none", x.force(-1), -1);
        due("16: none is no refusal", x.status(), 0);
        write(x, "counts 1").law();
        write(x, "counts 2").law();
        due("16: a law alone is not in force", x.of(0, 7), 5);
        due("16: first", x.force(0), -1);
        due("16: told", x.of(0, 7), 1);
        due("16: second", x.force(1), 0);
        due("16: told", x.of(0, 7), 2);
        due("16: no such", x.force(2), -2);
        due("16: below", x.force(-2), -2);
        due("16: stays", x.count(12), 1);
        due("16: none", x.force(-1), 1);
        due("16: as without", x.of(0, 7), 5);
    }

    private static void sticking() {
        StampQuarrels x = new StampQuarrels();
        for (int i = 0; i < 7; i++) {
            x.stamp(1, i % 6, i, i == 6 ? 0 : 9);
        }
        x.letter(5);
        x.letter(5);
        due("17: no such stamp", x.stick(7, 0), -2);
        due("17: no stamp below", x.stick(-1, 0), -2);
        due("17: no such letter", x.stick(0, 2), -2);
        due("17: no letter below", x.stick(0, -1), -2);
        due("17: no glue", x.stick(6, 0), -3);
        due("17: first", x.stick(0, 0), 0);
        due("17: not in the sheet", x.stick(0, 1), -3);
        for (int i = 1; i < 5; i++) {
            due("17: spot", x.stick(i, 0), i);
        }
        due("17: five", x.stick(5, 0), -3);
        due("17: another letter", x.stick(5, 1), 0);
        due("17: kept", x.count(5), 6);
        x = lawful(counter(), "bars if ire=4");
        due("17: first is by none", x.stick(1, 0), 0);
        x.stick(0, 1);
        x.peel(0);
        due("17: barred", x.stick(1, 1), -3);
        due("17: the other way is not", x.stick(3, 1), 1);
        x.stick(1, 0);
        due("17: behind it", x.stick(4, 0), 1);
        lawful(x, "bars if realm=2");
        due("17: only the last one matters", x.stick(2, 1), -3);
        x.peel(1);
        lawful(x, "bars if realm=1");
        due("17: not the one ahead of it", x.stick(3, 0), 2);
    }

    private static void peelingAndCancelling() {
        StampQuarrels x = counter();
        due("18: no such", x.peel(2), -2);
        due("18: below", x.peel(-1), -2);
        due("18: none", x.peel(0), -3);
        x.stick(1, 0);
        x.stick(3, 0);
        due("18: the last", x.peel(0), 3);
        due("18: in the sheet", x.of(3, 4), -1);
        due("18: the other stays", x.at(0, 5), 1);
        due("19: no such", x.cancel(2), -2);
        due("19: below", x.cancel(-1), -2);
        due("19: less than the fee", x.cancel(0), -3);
        due("19: none on it", x.cancel(1), -3);
        x.stick(0, 0);
        due("19: just the fee", x.cancel(0), 7);
        due("19: late", x.at(0, 4), 7);
        due("19: empty", x.at(0, 1), 0);
        due("19: cancelled can't be stuck", x.stick(1, 0), -3);
        x.stick(2, 0);
        x.stick(3, 0);
        due("19: more than the fee", x.cancel(0), 2);
        due("19: late is more", x.at(0, 4), 9);
        x = new StampQuarrels();
        x.letter(0);
        due("19: one at least, fee 0", x.cancel(0), -3);
        x.stamp(1, 0, 0, 1);
        x.stick(0, 0);
        due("19: fee 0", x.cancel(0), 0);
        x = lawful(counter(), "counts worth-2");
        x.stick(2, 0);
        due("19: as they count", x.cancel(0), -3);
        x.force(-1);
        due("19: as they count without", x.cancel(0), 0);
    }

    private static void days() {
        StampQuarrels x = counter();
        x.stick(0, 0);
        x.stick(2, 0);
        x.stick(1, 0);
        due("20: one falls", x.pass(), 1);
        due("20: the others move up", x.at(0, 6), 1);
        due("20: two are left", x.at(0, 1), 2);
        due("20: in the sheet", x.of(2, 4), -1);
        due("20: dry", x.of(2, 3), 0);
        due("20: in the sheet it dries, too", x.of(4, 3), 4);
        due("20: next day", x.count(13), 1);
        due("20: 0 at least", x.pass() + 10 * x.of(2, 3), 0);
        x.cancel(0);
        x.pass();
        due("20: a cancelled one does not dry", x.of(0, 3), 7);
        x.terms(0, 999);
        due("20: at 999", x.pass(), -3);
        due("20: nothing dried", x.of(3, 3), 6);
        x = lawful(counter(), "dries day+worth-4;dries 9 if glue=5");
        x.stick(4, 1);
        x.stick(0, 1);
        x.stick(3, 1);
        due("20: by the law", x.pass(), 1);
        due("20: 1", x.of(0, 3), 8);
        due("20: 0", x.of(3, 3), 9);
        x.pass();
        due("20: by the day ahead", x.of(0, 3), 6);
    }

    private static void undoing() {
        StampQuarrels x = counter();
        due("21: none", x.undo(), -3);
        x.stick(0, 0);
        x.stick(2, 0);
        x.peel(0);
        x.stick(1, 0);
        x.cancel(0);
        x.stick(2, 1);
        x.pass();
        due("21: pass", x.undo(), 3);
        due("21: glue", x.of(2, 3), 1);
        due("21: day", x.count(13), 0);
        due("21: on it again", x.at(1, 5), 2);
        due("21: stick", x.undo(), 0);
        due("21: cancel", x.undo(), 2);
        due("21: late", x.at(0, 4), 0);
        due("21: row", x.at(0, 6), 1);
        x.undo();
        due("21: peel", x.undo(), 1);
        due("21: row again", x.at(0, 6), 2);
        due("21: count", x.count(5), 2);
        x.peel(1);
        due("21: a refused deed is not kept", x.count(5), 2);
        x.undo();
        due("21: stick", x.undo(), 0);
        due("21: none is left", x.undo(), -3);
        due("21: status", x.status(), -3);
        due("21: all in the sheet", x.count(1), 5);
        lawful(x, "dries 3");
        x.hear(1, 2);
        x.pass();
        x.force(-1);
        x.undo();
        due("21: glue is as it was", x.of(0, 3), 9);
        due("21: force is not undone", x.count(12), -1);
        due("21: heard is not undone", x.count(3), 1);
    }

    private static void undoLimits() {
        StampQuarrels x = counter();
        for (int i = 0; i < 20; i++) {
            x.pass();
        }
        due("21: 16 are kept", x.count(5), 16);
        x.peel(0);
        due("21: refused with 16", x.count(5), 16);
        for (int i = 0; i < 16; i++) {
            due("21: pass", x.undo(), 3);
        }
        due("21: the first four stay", x.count(13), 4);
        due("21: no more", x.undo(), -3);
        int[] clears = {1, 1, 1, 1, 0, 0, 0, 0, 0, 0};
        for (int i = 0; i < clears.length; i++) {
            x = counter();
            x.pass();
            switch (i) {
                case 0: x.stamp(1, 1, 1, 1); break;
                case 1: x.letter(1); break;
                case 2: x.terms(2, 0); break;
                case 3: write(x, "\u0000").row(); break;
                case 4: x.stamp(0, 0, 0, 0); break;
                case 5: x.letter(61); break;
                case 6: x.terms(0, 1000); break;
                case 7: x.row(); break;
                case 8: write(x, "bars").law(); break;
                default: x.image(0); break;
            }
            due("21: cleared " + i, x.count(5), 1 - clears[i]);
        }
        x = counter();
        x.stick(0, 0);
        for (int i = 0; i < 15; i++) {
            x.pass();
        }
        write(x, "pass times 10;cancel 1");
        due("21: orders that can't be", x.orders(), -3);
        for (int i = 0; i < 15; i++) {
            x.undo();
        }
        due("21: the days are undone", x.count(13), 0);
        due("21: on it", x.of(0, 4), 0);
        due("21: all sixteen stay behind them", x.undo(), 0);
        due("21: the stick is undone", x.of(0, 4), -1);
    }

    private static void makingUp() {
        StampQuarrels x = counter();
        int[] want = {0, 1, 2, -1, -1, -1, -1, -1};
        for (int what = 0; what < want.length; what++) {
            due("22: madeUp(0, " + what + ")", x.madeUp(0, what), want[what]);
        }
        int[] wide = {2, 4, 0, 2, 3, 4, -1};
        for (int what = 0; what < wide.length; what++) {
            due("22: madeUp(1, " + what + ")", x.madeUp(1, what), wide[what]);
        }
        due("22: no such", x.madeUp(2, 0), -1);
        due("22: below", x.madeUp(-1, 0), -1);
        due("22: what below", x.madeUp(0, -1), -1);
        x.letter(0);
        due("22: fee 0, none needed", x.madeUp(2, 1), 0);
        due("22: fee 0, no stamp", x.madeUp(2, 2), -1);
        due("22: fee 0, no quarrel", x.madeUp(2, 0), 0);
        x.stick(2, 1);
        due("22: from the sheet alone", x.madeUp(0, 0), 3);
        due("22: more of them for less quarrel", x.madeUp(0, 1), 3);
        x.peel(1);
        x.pass();
        due("22: with glue alone", x.madeUp(0, 1), 3);
        x = new StampQuarrels();
        x.stamp(1, 0, 5, 9);
        x.stamp(1, 1, 5, 9);
        x.stamp(1, 0, 5, 9);
        x.stamp(3, 0, 5, 9);
        x.letter(3);
        x.letter(6);
        x.letter(7);
        due("22: the fewest", x.madeUp(0, 1), 1);
        due("22: all", x.madeUp(1, 1), 4);
        due("22: least quarrel", x.madeUp(1, 0), 10);
        due("22: the first row", x.madeUp(1, 2), 0);
        due("22: the first row, 1", x.madeUp(1, 3), 2);
        due("22: the first row, 3", x.madeUp(1, 5), 1);
        due("22: it can't be", x.madeUp(2, 0), -1);
        lawful(x, "bars if worth=3;counts worth+1 if worth=3");
        due("22: bars", x.madeUp(2, 5), 3);
        due("22: as they count", x.madeUp(1, 0), 0);
        due("22: as they count, row", x.madeUp(1, 2), 0);
        x = new StampQuarrels();
        x.stamp(7, 0, 0, 1);
        x.letter(7);
        due("22: of one alone", x.madeUp(0, 2), 0);
        x.letter(14);
        due("22: each once", x.madeUp(1, 0), -1);
        x = new StampQuarrels();
        for (int i = 0; i < 10; i++) {
            x.stamp(1, 0, 0, 9);
        }
        x.letter(5);
        x.letter(6);
        due("22: five", x.madeUp(0, 6), 4);
        due("22: six are too many", x.madeUp(1, 0), -1);
    }

    private static void buffering() {
        StampQuarrels x = new StampQuarrels();
        x.stamp(1, 0, 3, 9);
        x.stamp(1, 1, 4, 9);
        x.stamp(1, 2, 5, 9);
        x.stamp(1, 3, 0, 9);
        x.stamp(1, 4, 0, 9);
        x.stamp(1, 5, 0, 0);
        x.stamp(1, 5, 0, 9);
        x.letter(9);
        due("23: none needed", x.buffers(0, -1), 0);
        due("23: no gap", x.buffers(0, 0), -1);
        x.stick(0, 0);
        x.stick(1, 0);
        x.stick(2, 0);
        due("23: it can't be", x.buffers(0, -1), -1);
        lawful(x, "quarrels temper*ire");
        due("23: two", x.buffers(0, -1), 2);
        due("23: the first", x.buffers(0, 0), 3);
        due("23: the second", x.buffers(0, 1), 4);
        due("23: no third", x.buffers(0, 2), -1);
        due("23: i below", x.buffers(0, -2), -1);
        due("23: no such letter", x.buffers(1, -1), -1);
        due("23: no letter below", x.buffers(-1, -1), -1);
        lawful(x, "quarrels temper*ire;bars if realm=3 and land=1");
        due("23: not barred", x.buffers(0, 0), 4);
        due("23: the next", x.buffers(0, 1), 3);
        lawful(x, "quarrels temper*ire;bars if land=3;bars if land=4");
        due("23: with glue, each another one", x.buffers(0, -1), -1);
        lawful(x, "quarrels temper*ire;quarrels 1 if realm=0 and not land=3");
        due("23: the other way round", x.buffers(0, 0), 3);
        due("23: goes back", x.buffers(0, 1), 4);
        lawful(x, "quarrels temper*ire;quarrels 1 if realm=1 and not land=3");
        due("23: takes another so that all can", x.buffers(0, 0), 4);
        due("23: so that all can", x.buffers(0, 1), 3);
        lawful(x, "quarrels 0;quarrels temper*ire if realm=1");
        due("23: one gap of two", x.buffers(0, -1), 1);
        due("23: the gap that needs one", x.buffers(0, 0), 3);
        x.stick(3, 0);
        x.stick(4, 0);
        due("23: a sixth, on paper", x.buffers(0, 0), 6);
        x.force(0);
        due("23: from the sheet alone", x.buffers(0, -1), -1);
    }

    private static void bufferingByTheFirst() {
        StampQuarrels x = new StampQuarrels();
        x.stamp(1, 0, 0, 1);
        x.stamp(1, 1, 4, 9);
        x.stamp(1, 2, 5, 9);
        x.letter(9);
        x.stick(1, 0);
        x.stick(2, 0);
        lawful(x, "quarrels temper*ire");
        due("23: stamp 0 with a little glue", x.buffers(0, 0), 0);
        x.stick(0, 0);
        due("23: gaps without quarrel need none", x.buffers(0, -1), -1);
        x.stamp(1, 3, 0, 1);
        due("23: one gap of two needs one", x.buffers(0, -1), 1);
        due("23: the one in the sheet", x.buffers(0, 0), 3);
    }

    private static void exchanging() {
        StampQuarrels x = counter();
        due("24: none on it", x.exchanged(0, 0), -1);
        x.stick(0, 0);
        due("24: one", x.exchanged(0, 0), -1);
        x.stick(1, 0);
        due("24: no less", x.exchanged(0, 0), -1);
        x.stick(2, 0);
        x.stick(3, 0);
        due("24: now", x.at(0, 3), 15);
        due("24: the two", x.exchanged(0, 0), 1);
        due("24: then", x.exchanged(0, 1), 9);
        due("24: what", x.exchanged(0, 2), -1);
        due("24: what below", x.exchanged(0, -1), -1);
        due("24: no such", x.exchanged(2, 0), -1);
        due("24: below", x.exchanged(-1, 0), -1);
        due("24: on paper", x.at(0, 6), 1);
        lawful(x, "bars");
        due("24: barred aside", x.exchanged(0, 1), 9);
        lawful(x, "quarrels 0;quarrels 5 if temper=2 and ire=0");
        due("24: of alike the lowest", x.exchanged(0, 0), 2);
        due("24: no quarrel", x.exchanged(0, 1), 0);
        lawful(x, "quarrels 5;quarrels 0 if temper=3 and ire=2;quarrels 0 if temper=2 and ire=4;quarrels 0 if temper=4 and ire=0");
        due("24: above 9", x.exchanged(0, 0), 12);
        lawful(x, "quarrels temper-ire");
        due("24: by the law", x.exchanged(0, 0), 3);
        due("24: by the law, then", x.exchanged(0, 1), 2);
    }

    private static void pocketing() {
        StampQuarrels x = counter();
        int[] want = {3, 0, 1, 0, 2, 2, -1};
        for (int what = 0; what < want.length; what++) {
            due("25: pockets(" + what + ")", x.pockets(what), want[what]);
        }
        due("25: below", x.pockets(-1), -1);
        x.stick(1, 0);
        due("25: without one", x.pockets(0), 2);
        due("25: not in the sheet", x.pockets(2), 100);
        x.pass();
        due("25: glue or not", x.pockets(3), 0);
        lawful(x, "quarrels temper-ire");
        due("25: whichever lies left", x.pockets(0), 3);
        x.stick(0, 0);
        due("25: the first not in the sheet", x.pockets(1), 100);
        x = new StampQuarrels();
        x.stamp(1, 2, 3, 4);
        x.stamp(1, 2, 5, 4);
        due("25: one for all of a realm", x.pockets(0), 1);
        due("25: it is pocket 0", x.pockets(2), 0);
        x = new StampQuarrels();
        due("25: none", x.pockets(0), 0);
        due("25: no such", x.pockets(1), -1);
        for (int i = 0; i < 10; i++) {
            x.stamp(1, i % 6, i, 1);
        }
        lawful(x, "quarrels 1");
        due("25: ten", x.pockets(0), 10);
        due("25: the last", x.pockets(10), 9);
        lawful(x, "quarrels 0;quarrels 1 if [temper+ire]%2=1 and not temper/2=ire/2");
        due("25: two, not as they come", x.pockets(0), 2);
        due("25: even", x.pockets(9), 0);
        due("25: odd", x.pockets(10), 1);
    }

    private static void hearing() {
        StampQuarrels x = counter();
        due("26: too much", x.hear(0, 21), -1);
        due("26: below", x.hear(0, -1), -1);
        due("26: the most", x.hear(0, 20), 1);
        x.forget();
        due("26: no such", x.hear(5, 0), -2);
        due("26: no such below", x.hear(-1, 0), -2);
        due("26: wrong number first", x.hear(5, 21), -1);
        due("28: nothing heard", x.canBe(), 31);
        due("26: once", x.hear(3, 3), 1);
        due("28: one", x.canBe(), 1);
        due("26: twice", x.hear(4, 3), 2);
        due("28: both", x.canBe(), 1);
        x.hear(0, 0);
        due("28: not itself", x.canBe(), 0);
        due("27: forget", x.forget(), 3);
        due("27: nothing", x.forget(), 0);
        for (int i = 1; i <= 6; i++) {
            due("26: heard", x.hear(0, 0), i);
        }
        due("26: no room", x.hear(0, 0), -5);
        due("26: no such ahead of no room", x.hear(9, 0), -2);
        due("28: by the realm", x.canBe(), 4);
        x.forget();
        lawful(x, "quarrels temper-ire");
        x.hear(2, 2);
        due("28: on its left", x.canBe(), 2);
    }

    private static void besides() {
        StampQuarrels x = counter();
        due("29: all apart", x.beside(0), 3);
        due("29: one is left", x.beside(1), 1);
        due("29: what", x.beside(2), -1);
        due("29: what below", x.beside(-1), -1);
        x.hear(3, 3);
        due("29: the lowest", x.beside(0), 0);
        due("29: itself is one", x.beside(1), 1);
        x.hear(3, 4);
        due("29: none can be", x.beside(0), -1);
        due("29: none can be, at most", x.beside(1), -1);
        x.forget();
        lawful(x, "quarrels 20");
        due("29: alike by 20", x.beside(1), 4);
        due("29: alike by 20, once more", x.beside(1), 4);
        x = new StampQuarrels();
        due("29: no stamps", x.beside(0), -1);
        for (int i = 0; i < 4; i++) {
            x.stamp(1, 0, i, 1);
        }
        due("29: all alike", x.beside(1), 3);
        due("29: all alike, the lowest", x.beside(0), 0);
        lawful(x, "quarrels temper/2 if ire=2;quarrels 0 if not ire=2");
        due("29: by halves", x.beside(0), 2);
        due("29: two are left", x.beside(1), 2);
    }

    private static void sorting() {
        StampQuarrels x = new StampQuarrels();
        int[] worths = {1, 2, 5, 1, 10, 3};
        for (int w : worths) {
            x.stamp(w, 0, 0, 9);
        }
        due("30: one", x.sorts(1, 0), 1);
        due("30: five of one", x.sorts(5, 1), 1);
        due("30: six", x.sorts(6, 0), 2);
        due("30: six, the lowest", x.sorts(6, 1), 3);
        due("30: eleven", x.sorts(11, 1), 5);
        due("30: twelve", x.sorts(12, 0), 2);
        due("30: f below", x.sorts(0, 0), -1);
        due("30: f above", x.sorts(31, 0), -1);
        due("30: what", x.sorts(5, 2), -1);
        due("30: what below", x.sorts(5, -1), -1);
        due("30: to 30", x.sorts(30, 0), 4);
        due("31: of one", x.fewest(60, 1), 60);
        due("31: of some", x.fewest(9, 6), 3);
        due("31: of none", x.fewest(9, 0), -1);
        due("31: nothing of none", x.fewest(0, 0), 0);
        due("31: those that are not there", x.fewest(6, 1023 - 63), -1);
        due("31: not there aside", x.fewest(6, 1023 - 31), 2);
        due("31: can't be", x.fewest(7, 16 + 4), -1);
        due("31: best is not greedy", x.fewest(6, 1 + 4 + 32), 2);
        due("31: fee below", x.fewest(-1, 1), -1);
        due("31: fee above", x.fewest(61, 1), -1);
        due("31: sorts below", x.fewest(1, -1), -1);
        due("31: sorts above", x.fewest(0, 1024), -1);
        due("31: all sorts", x.fewest(0, 1023), 0);
        due("31: a later sort is better", x.fewest(2, 3), 1);
        due("31: a later sort is worse", x.fewest(2, 2 + 8), 1);
        x.letter(1);
        x.stick(0, 0);
        x.cancel(0);
        due("31: all there are", x.fewest(3, 1), 3);
        due("30: all there are", x.sorts(5, 1), 1);
        lawful(x, "counts worth-1");
        due("30: as they count", x.sorts(5, 1), 2);
        due("31: as they count", x.fewest(9, 1023), 1);
        due("31: one that counts for 0", x.fewest(3, 1), -1);
        due("30: can't be", lawful(x, "counts 2").sorts(2, 0), -1);
        x = new StampQuarrels();
        x.stamp(1, 0, 0, 9);
        x.stamp(6, 0, 0, 9);
        due("30: all are needed", x.sorts(6, 1), 3);
        due("30: six at 11", x.sorts(11, 0), -1);
        due("30: five at 10", x.sorts(10, 0), 2);
    }

    private static void holding() {
        StampQuarrels x = counter();
        due("32: no such", x.holds(2), -1);
        due("32: below", x.holds(-1), -1);
        due("32: empty", x.holds(0), 1000000000000L);
        x.stick(2, 0);
        x.stick(4, 0);
        due("32: rain 1", x.holds(0), 1000000000000L);
        x.terms(1, 4);
        due("32: rain 4", x.holds(0), 700L * 800000000L);
        x.terms(1, 10);
        due("32: rain 10", x.holds(0), 100L * 500000000L);
        x.terms(1, 0);
        due("32: no rain", x.holds(0), 1000000000000L);
        x.terms(1, 3);
        due("32: rain 3, cut", x.holds(0), 800L * 900000000L);
    }

    private static void kinAndCompare() {
        StampQuarrels x = counter();
        due("33: of one realm", x.kin(0), 4);
        due("33: without temper", x.kin(3), 16);
        due("33: none", x.kin(1), 0);
        due("33: no such", x.kin(5), -1);
        due("33: below", x.kin(-1), -1);
        lawful(x, "quarrels temper-ire");
        due("33: neither way", x.kin(0), 0);
        due("33: both 0", x.kin(4), 8);
        x.force(-1);
        x.stick(0, 0);
        x.stick(1, 0);
        x.stick(2, 1);
        x.stick(3, 1);
        due("34: none", x.compare(-1), 9);
        due("34: a law", x.compare(0), 2);
        x.force(0);
        due("34: in place of that in force", x.compare(-1), 9);
        due("34: force stays", x.count(12), 0);
        due("34: that in force", x.compare(0), 2);
        due("34: force stays", x.count(12), 0);
        due("34: no such", x.compare(1), -1);
        due("34: below", x.compare(-2), -1);
        due("34: no refusal", x.status(), 0);
    }

    private static void reigning() {
        StampQuarrels x = new StampQuarrels();
        due("35: nothing", x.reigns(5, 1), -3);
        x.stamp(5, 0, 3, 9);
        due("35: no letters", x.reigns(5, 1), -3);
        due("36: ahead of any", x.drawn(0, 0), -1);
        x.letter(5);
        due("35: seed below", x.reigns(-1, 1), -1);
        due("35: seed above", x.reigns(1000001, 1), -1);
        due("35: n below", x.reigns(5, 0), -1);
        due("35: n above", x.reigns(5, 61), -1);
        due("36: refused ones are not kept", x.drawn(0, 1), -1);
        // from seed 0 the third DRAW is 621889: at 1 it is stuck
        due("35: one day", x.reigns(0, 1), 0);
        due("36: glue", x.drawn(0, 1), 8);
        due("36: letter", x.drawn(0, 0), 0);
        // from seed 2 the third DRAW is 453291: at 3 nothing can be cancelled
        due("35: one day", x.reigns(2, 1), 0);
        due("36: letter", x.drawn(0, 0), -1);
        due("36: late", x.drawn(0, 2), 0);
        due("36: no such stamp", x.drawn(1, 1), -1);
        due("36: no such letter", x.drawn(1, 2), -1);
        due("36: what", x.drawn(0, 3), -1);
        due("36: what below", x.drawn(0, -1), -1);
        due("36: below", x.drawn(-1, 0), -1);
        due("35: on paper", x.count(13) + x.count(5), 0);
        x.stick(0, 0);
        due("35: cancelled at once", x.reigns(2, 1), 1);
        due("36: a cancelled one does not dry", x.drawn(0, 1), 9);
        // from seed 5 the third DRAW is 200394: at 2 it is peeled
        due("35: peeled", x.reigns(5, 1), 0);
        due("36: peeled", x.drawn(0, 0), -1);
        due("35: on paper, still on it", x.of(0, 4), 0);
        due("35: 60", x.reigns(1000000, 60), reignsByHand(x, 1000000, 60));
        x.stamp(1, 0, 0, 9);
        due("36: later stamps were not in it", x.drawn(1, 1), -1);
        x.terms(0, 999);
        due("35: at 999 it ends", x.reigns(0, 60), 0);
        due("36: nothing passed", x.drawn(0, 1), 9);
        due("36: on it", x.drawn(0, 0), 0);
        x.terms(0, 998);
        x.reigns(0, 60);
        due("36: one day passed", x.drawn(1, 1), 8);
    }

    /** The same by calls, for one stamp and one letter; all is put back by an image. */
    private static int reignsByHand(StampQuarrels x, int seed, int n) {
        x.image(1);
        long s = seed;
        int cancelled = 0;
        for (int i = 0; i < n; i++) {
            s = (s * 1103 + 12345) % 1000003;
            s = (s * 1103 + 12345) % 1000003;
            s = (s * 1103 + 12345) % 1000003;
            long what = s % 4;
            if (what <= 1) {
                x.stick(0, 0);
            } else if (what == 2) {
                x.peel(0);
            } else if (x.cancel(0) >= 0) {
                cancelled++;
            }
            x.pass();
        }
        due("36: glue as by hand", x.drawn(0, 1), x.of(0, 3));
        due("36: letter as by hand", x.drawn(0, 0), x.of(0, 4));
        due("36: late as by hand", x.drawn(0, 2), x.at(0, 4));
        x.back(1);
        return cancelled;
    }

    private static void images() {
        StampQuarrels x = counter();
        due("37: below", x.image(-1), -1);
        due("37: above", x.image(2), -1);
        due("38: below", x.back(-1), -1);
        due("38: above", x.back(2), -1);
        due("38: not kept", x.back(0), -2);
        x.terms(1, 5);
        x.hear(1, 1);
        x.stick(0, 0);
        due("37: kept", x.image(0), 0);
        due("37: what can be undone stays", x.count(5), 1);
        x.stick(1, 0);
        x.cancel(0);
        x.pass();
        x.stamp(1, 1, 1, 1);
        x.letter(3);
        x.terms(1, 6);
        x.terms(2, 4);
        x.hear(2, 2);
        x.reigns(0, 3);
        int glue = x.drawn(3, 1);
        lawful(x, "counts 1");
        x.image(1);
        write(x, "pass;peel 0").orders();
        write(x, "\u0000").row();
        write(x, "no").law();
        write(x, "tape");
        int refusals = x.count(7) + x.count(8) + x.count(9) + x.count(11);
        due("38: back", x.back(0), 0);
        int[] want = {5, 4, 2, 1, 0, 0, 4, -9, -9, -9, -9, -9, -1, 0, 5, 0};
        for (int what = 0; what < want.length; what++) {
            if (want[what] != -9) {
                due("38: count(" + what + ")", x.count(what), want[what]);
            }
        }
        due("38: refusals are not kept", x.count(7) + x.count(8) + x.count(9) + x.count(11), refusals);
        due("38: fault stays", x.fault(), 0);
        due("38: misprints stay", x.misprints(), 1);
        due("38: stopped stays", x.stopped(), 1);
        due("38: reigns stay", x.drawn(3, 1), glue);
        due("38: on it again", x.at(0, 5), 0);
        due("38: alone", x.at(0, 1), 1);
        due("38: late", x.at(0, 4), 0);
        due("38: glue", x.of(0, 3), 9);
        due("38: nothing to undo", x.undo(), -3);
        due("38: canBe", x.canBe(), 0);
        due("38: the other image", x.back(1), 0);
        due("38: its law", x.of(0, 7), 1);
        due("38: its stamps", x.count(0), 6);
        due("38: the first once more", x.back(0), 0);
        due("38: as it was", x.count(0), 5);
        x.pass();
        x.back(0);
        due("38: images stay as they were", x.of(0, 3), 9);
        due("38: the pass can't be undone", x.undo(), -3);
        x = new StampQuarrels();
        x.image(0);
        x.stamp(1, 2, 3, 4);
        x.letter(5);
        x.hear(0, 6);
        x.image(1);
        x.back(0);
        x.stamp(7, 1, 8, 6);
        x.letter(9);
        x.hear(0, 10);
        x.back(1);
        int[] stamp = {1, 2, 3, 4};
        for (int what = 0; what < stamp.length; what++) {
            due("38: of(0, " + what + ")", x.of(0, what), stamp[what]);
        }
        due("38: fee", x.at(0, 0), 5);
        x.stamp(1, 1, 3, 1);
        due("38: what was heard", x.canBe(), 2);
        x.stamp(1, 1, 1, 1);
        x.image(1);
        x.back(0);
        x.stamp(1, 1, 1, 1);
        x.stamp(1, 1, 1, 1);
        x.hear(1, 6);
        x.back(1);
        due("38: beside whom it was heard", x.canBe(), 2);
    }

    private static void imagesOfLaws() {
        StampQuarrels x = counter();
        x.image(0);
        lawful(x, "counts 1");
        x.image(1);
        x.back(0);
        due("38: no law", x.count(4), 0);
        due("38: no such law", x.force(0), -2);
        lawful(x, "counts 2");
        due("38: another law of that number", x.of(0, 7), 2);
        x.back(1);
        due("38: the law of then", x.of(0, 7), 1);
        x.back(0);
        x.letter(7);
        x.stick(0, 2);
        x.back(0);
        due("38: a letter anew", x.letter(9), 2);
        due("38: it is empty", x.at(2, 1), 0);
        due("38: fee anew", x.at(2, 0), 9);
    }

    private static void countsAndStatus() {
        StampQuarrels x = counter();
        due("39: what", x.count(16), -1);
        due("39: what below", x.count(-1), -1);
        due("40: not refused", x.status(), 0);
        x.stamp(0, 0, 0, 0);
        due("40: -1", x.status(), -1);
        x.of(9, 9);
        x.canBe();
        x.feed(1, 2, 3, 4, 5);
        x.end(999);
        due("40: other calls do not matter", x.status(), -1);
        x.force(4);
        due("40: -2", x.status(), -2);
        x.undo();
        due("40: -3", x.status(), -3);
        x.law();
        due("40: -6", x.status(), -6);
        x.image(0);
        due("40: image", x.status(), 0);
        x.letter(1);
        x.letter(1);
        due("40: -5", x.status(), -5);
        x.back(0);
        due("40: back", x.status(), 0);
        int[] want = {1, 1, 1, 1, 1};
        for (int i = 0; i < want.length; i++) {
            due("39: count(" + (7 + i) + ")", x.count(7 + i), want[i]);
        }
        x.hear(0, 77);
        due("40: hear", x.status(), -1);
        x.hear(0, 7);
        due("40: hear again", x.status(), 0);
        x.reigns(-1, 1);
        due("40: reigns", x.status(), -1);
        x.reigns(1, 1);
        due("40: reigns again", x.status(), 0);
        x.row();
        due("40: row", x.status(), -6);
        x.terms(9, 9);
        due("40: terms", x.status(), -1);
        x.pass();
        due("40: pass", x.status(), 0);
        x.peel(0);
        due("40: peel", x.status(), -3);
        x.cancel(9);
        due("40: cancel", x.status(), -2);
        x.stick(0, 0);
        due("40: stick", x.status(), 0);
        x.orders();
        due("40: orders", x.status(), -6);
        due("39: tape", x.feed(0, 0, 0, 0, 0), x.count(6));
    }
}
