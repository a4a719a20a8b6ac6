/** Promises 20 to 22 and the terms of ACTS and a DAY: each sentence that names a boundary has a test of its own. */
public final class BoundsActsTest {
    private static final int[] FAR = {-1, Integer.MIN_VALUE, Integer.MAX_VALUE, 32};

    public static void main(String[] args) {
        noActs();
        hearingActs();
        sayingActs();
        walkingActs();
        tellingActs();
        farNumbers();
        tellsAllThatHeHas();
        stillHasItThen();
        elsewhere();
        firstPlace();
        lostAheadOfIt();
        hisThingsThen();
        placesWithBoth();
        asIfDone();
        doneTillOneCannotBe();
        judgeRefused();
        performRefused();
        dayTimes();
        dayWithoutCouriers();
        dayDraws();
        dayWithoutInns();
        dayByCouriers();
        dayWrapsAround();
        Check.end("BoundsActsTest");
    }

    /** What judge and perform say of COURIER 0 and a ROW, of which so many can be. */
    private static void done(String sentence, NineInMind x, int many, long... acts) {
        Check.row(x, 0, acts);
        Check.promise(20, sentence + ", the first place that can't be", many == acts.length ? -1 : many, x.judge(0, 0, 0));
        Check.promise(21, sentence + ", how many were", many, x.perform(0, 0));
    }

    private static void noActs() {
        NineInMind x = Check.with("things 4;secret 0 1;", 4);
        Check.hear(x, 0, 0, 1);
        x.numbers(0, 0, 0);
        int[] due = {-1, 0, 3, 0};
        for (int what = 0; what < 4; what++) {
            Check.promise(20, "a ROW of none, what " + what, due[what], x.judge(0, 0, what));
        }
        Check.promise(21, "a ROW of none", 0, x.perform(0, 0));
    }

    private static void hearingActs() {
        NineInMind x = Check.with("things 16;", 1);
        done("t is 0", x, 1, 0);
        done("t is 15", x, 1, 15);
        Check.promise(21, "he HEARS t", 0x1f, Check.mind(x, 0));
        for (int act = 16; act < 20; act++) {
            done("no THING, " + act, x, 0, act);
        }
        x = Check.with("things 3;", 1);
        done("the last THING", x, 1, 2);
        done("there is no such THING", x, 0, 3);
        done("there is no such THING", x, 0, 15);
    }

    private static void sayingActs() {
        NineInMind x = Check.with("things 16;rhyme 15 0;", 2);
        done("he has it not, t is 0", x, 0, 20);
        done("he has it not, t is 15", x, 0, 35);
        done("he has it then", x, 2, 15, 35);
        Check.promise(21, "he SAYS t", 0x10f, Check.mind(x, 0));
        done("he has what rhymed", x, 1, 20);
        for (int act = 36; act < 40; act++) {
            done("no THING, " + act, x, 0, act);
        }
        x = Check.with("things 3;", 3);
        done("the last THING", x, 2, 2, 22);
        done("there is no such THING", x, 0, 23);
    }

    private static void walkingActs() {
        NineInMind x = Check.with("things 4;inn;inn;inn;inn;inn;inn;inn;inn;inn;inn 3;", 1);
        done("INN 0", x, 1, 40);
        done("INN 9", x, 1, 49);
        Check.promise(21, "he WALKS to INN i", 9, x.of(0, 1));
        Check.promise(21, "he HEARS its NEWS", 0x13, Check.mind(x, 0));
        for (int act = 50; act < 60; act++) {
            done("no INN, " + act, x, 0, act);
        }
        x = Check.with("things 4;inn;inn;", 1);
        done("the last INN", x, 1, 41);
        done("there is no such INN", x, 0, 42);
        done("there are no INNS", Check.with("things 4;", 1), 0, 40);
    }

    private static void tellingActs() {
        NineInMind x = Check.with("things 4;", 1, 1, 1, 1, 1, 1);
        done("he himself is no other one", x, 0, 60);
        done("COURIER 1", x, 1, 61);
        done("COURIER 5", x, 1, 65);
        for (int act = 66; act < 80; act++) {
            done("no COURIER, " + act, x, 0, act);
        }
        x = Check.with("things 4;", 1, 1);
        done("the last COURIER", x, 1, 61);
        done("there is no such COURIER", x, 0, 62);
        Check.row(x, 0, 60);
        Check.promise(20, "COURIER 0 tells COURIER 1", -1, x.judge(1, 0, 0));
        Check.row(x, 0, 61);
        Check.promise(20, "COURIER 1 himself", 0, x.judge(1, 0, 0));
    }

    private static void farNumbers() {
        NineInMind x = Check.with("things 16;inn;inn;", 9, 9);
        x.hears(0, 0);
        long[] none = {-1, -20, -60, 99, 255, 256, 1L << 32, (1L << 32) + 20, (1L << 32) + 40, (1L << 32) + 61,
            Integer.MAX_VALUE, Integer.MIN_VALUE, Long.MAX_VALUE, Long.MIN_VALUE, Long.MIN_VALUE + 60};
        for (long act : none) {
            done("no ACT has the number " + act, x, 0, act);
        }
        Check.promise(21, "nothing was done", 0x10, Check.mind(x, 0));
    }

    private static void tellsAllThatHeHas() {
        NineInMind x = Check.with("things 16;rhyme 7 5;", 9, 9, 2);
        done("one who has nothing", x, 1, 61);
        Check.promise(21, "he HEARS nothing", 0, x.of(0, 2));
        Check.hear(x, 1, 1, 2, 3);
        done("all that that one has", x, 1, 61);
        Check.promise(21, "from the first of his MIND on", 0x1123, Check.mind(x, 0));
        Check.promise(21, "that one SAYS each", 0x1123, Check.mind(x, 1));
        Check.hear(x, 2, 1, 0);
        done("all that one has, each once", x, 1, 62);
        Check.promise(21, "the last of that one's MIND comes last", 0x11023, Check.mind(x, 0));
        Check.hear(x, 1, 7);
        done("with a rhyme", x, 1, 61);
        // that one: 7, then 5; 1; 2; 3
        Check.promise(21, "as it is now: 5 came later", 0x132170, Check.mind(x, 0));
        Check.promise(21, "that one HEARS what rhymes", 0x132157, Check.mind(x, 1));
    }

    private static void stillHasItThen() {
        NineInMind x = Check.with("things 16;rhyme 7 5;rhyme 7 6;", 9, 3);
        Check.hear(x, 1, 1, 2, 7);
        // 7: 7 2 1, then 5: 5 7 2, then 6: 6 5 7. 2 and 1: gone
        done("each if that one still has it then", x, 1, 61);
        Check.promise(21, "what was told", 0x17, Check.mind(x, 0));
        Check.promise(21, "that one's MIND", 0x1657, Check.mind(x, 1));
    }

    private static void elsewhere() {
        NineInMind x = Check.with("things 4;inn;inn;", 9, 9);
        x.hears(1, 3);
        done("he is elsewhere then", x, 1, 41, 61);
        Check.promise(21, "he HEARS nothing", 0, x.of(0, 2));
        done("he comes back ahead of it", x, 2, 40, 61);
        Check.promise(21, "he HEARS it", 0x13, Check.mind(x, 0));
        x.walks(1, 1);
        done("the other one is elsewhere", x, 0, 61);
    }

    private static void firstPlace() {
        NineInMind x = Check.with("things 4;", 2);
        Check.row(x, 0, 9, 9);
        Check.promise(20, "the first place that can't be: 0", 0, x.judge(0, 0, 0));
        Check.row(x, 0, 0, 1, 9, 20, 9);
        Check.promise(20, "the first place that can't be: 2", 2, x.judge(0, 0, 0));
        x.numbers(0, 0, 40);
        Check.promise(20, "NONE: 40 ACTS that can be", -1, x.judge(0, 0, 0));
        x.write(0, 39, 9);
        Check.promise(20, "the first place that can't be: the last one", 39, x.judge(0, 0, 0));
        Check.promise(21, "how many were", 39, x.perform(0, 0));
        x.write(0, 39, 3);
        Check.promise(21, "all 40", 40, x.perform(0, 0));
    }

    private static void lostAheadOfIt() {
        NineInMind x = Check.with("things 6;rhyme 0 1;", 1, 1);
        x.hears(0, 5);
        x.hears(0, 4);
        x.hears(1, 0);
        Check.row(x, 0, 9);
        Check.promise(20, "what he LOST ahead of the ROW doesn't count", 0, x.judge(0, 0, 1));
        Check.row(x, 0, 3, 2, 9, 1);
        Check.promise(20, "how many he LOST ahead of it", 2, x.judge(0, 0, 1));
        // COURIER 1 SAYS 0, HEARS 1 and so LOSES 0
        Check.row(x, 0, 61);
        Check.promise(20, "he LOST, not the other one", 1, x.judge(0, 0, 1));
    }

    private static void hisThingsThen() {
        NineInMind x = Check.with("things 16;", 2);
        Check.row(x, 0, 0, 15, 30, 1);
        Check.promise(20, "his THINGS then, as he can't go on", 1 | 1 << 15, x.judge(0, 0, 2));
        Check.row(x, 0, 0, 15, 3);
        Check.promise(20, "his THINGS then, at the end", 1 << 3 | 1 << 15, x.judge(0, 0, 2));
        Check.row(x, 0, 16);
        Check.promise(20, "no THINGS", 0, x.judge(0, 0, 2));
    }

    private static void placesWithBoth() {
        NineInMind x = Check.with("things 6;secret 0 1;secret 2 3;", 3);
        Check.row(x, 0, 0, 4, 1, 20, 2, 3, 4);
        // 0. 4 0. 1 4 0: both. 0 1 4: both. 2 0 1: both. 3 2 0: both of another one. 4 3 2: both
        Check.promise(20, "places behind which he holds both", 5, x.judge(0, 0, 3));
        Check.row(x, 0, 0, 1, 9, 0);
        Check.promise(20, "the place that can't be is none", 1, x.judge(0, 0, 3));
        Check.hear(x, 0, 0, 1);
        Check.row(x, 0, 9);
        Check.promise(20, "he holds both, but there is no place", 0, x.judge(0, 0, 3));
        Check.row(x, 0, 4);
        Check.promise(20, "he held both ahead of it and still does", 1, x.judge(0, 0, 3));
        Check.row(x, 0, 4, 5);
        Check.promise(20, "then one of both is LOST", 1, x.judge(0, 0, 3));
        x = Check.with("things 6;secret 0 1;inn;inn 0 1 2 3;", 2);
        Check.row(x, 0, 41);
        Check.promise(20, "both on the way, but not behind the place", 0, x.judge(0, 0, 3));
    }

    private static void asIfDone() {
        NineInMind x = Check.with("things 6;rhyme 0 1;inn;inn 5;", 2, 2);
        Check.hear(x, 0, 2, 3);
        Check.hear(x, 1, 4, 0);
        Check.row(x, 0, 61, 41, 20);
        for (int what = 0; what < 4; what++) {
            x.judge(0, 0, what);
        }
        Check.promise(20, "as if done: his MIND stays", 0x132, Check.mind(x, 0));
        Check.promise(20, "as if done: his INN stays", 0, x.of(0, 1));
        Check.promise(20, "as if done: nothing was LOST", 0, x.of(0, 5));
        Check.promise(20, "as if done: nothing was LOST anywhere", -1, x.lost(0, 2));
        Check.promise(20, "as if done: the other's MIND stays", 0x104, Check.mind(x, 1));
        Check.promise(20, "as if done: the other one LOST nothing", 0, x.of(1, 5));
    }

    private static void doneTillOneCannotBe() {
        NineInMind x = Check.with("things 6;inn;inn 5;", 2);
        Check.row(x, 0, 1, 41, 6, 2, 40);
        Check.promise(21, "how many were", 2, x.perform(0, 0));
        Check.promise(21, "those ahead of it are done", 0x151, Check.mind(x, 0));
        Check.promise(21, "those behind it aren't", 1, x.of(0, 1));
    }

    private static void judgeRefused() {
        NineInMind x = Check.with("things 4;", 2);
        x.numbers(0, 0, 1);
        for (int far : FAR) {
            Check.promise(20, "-2: no COURIER " + far, -2, x.judge(far, 0, 0));
            Check.promise(20, "-2: no ROW " + far, -2, x.judge(0, far, 0));
            Check.promise(20, "-2: no what " + far, -2, x.judge(0, 0, far));
        }
        Check.promise(20, "-2: the COURIER behind the last", -2, x.judge(1, 0, 0));
        Check.promise(20, "-2: the ROW behind the last", -2, x.judge(0, 4, 0));
        Check.promise(20, "-2: the what behind the last", -2, x.judge(0, 0, 4));
        Check.promise(20, "-6: a ROW that is MISSING", -6, x.judge(0, 3, 0));
        Check.promise(20, "-2 ahead of -6: the COURIER", -2, x.judge(1, 3, 0));
        Check.promise(20, "-2 ahead of -6: the what", -2, x.judge(0, 3, 4));
    }

    private static void performRefused() {
        NineInMind x = Check.with("things 4;", 2);
        x.numbers(0, 0, 1);
        for (int far : FAR) {
            Check.promise(21, "-2: no COURIER " + far, -2, x.perform(far, 0));
            Check.promise(21, "-2: no ROW " + far, -2, x.perform(0, far));
        }
        Check.promise(21, "-2: the COURIER behind the last", -2, x.perform(1, 0));
        Check.promise(21, "-2: the ROW behind the last", -2, x.perform(0, 4));
        Check.promise(21, "-6: a ROW that is MISSING", -6, x.perform(0, 3));
        Check.promise(21, "-2 ahead of -6", -2, x.perform(1, 3));
        Check.promise(21, "nothing was done", 0, x.of(0, 2));
    }

    // ---- promise 22

    private static void dayTimes() {
        NineInMind x = Check.with("things 4;", 2);
        for (int times : new int[] {0, 41, -1, Integer.MIN_VALUE, Integer.MAX_VALUE}) {
            Check.promise(22, "-3: how many times, " + times, -3, x.day(5, times));
            Check.promise(22, "-3: nothing was done", 0, x.of(0, 2));
        }
        alike("once", "things 4;inn 1 2;inn 3;", 7, 1, 2);
        alike("40 times", "things 4;inn 1 2;inn 3;", 7, 40, 2);
    }

    private static void dayWithoutCouriers() {
        NineInMind x = Check.with("things 4;");
        Check.promise(22, "-5: no COURIERS", -5, x.day(1, 1));
        Check.promise(22, "-5 ahead of -3: 0", -5, x.day(1, 0));
        Check.promise(22, "-5 ahead of -3: 41", -5, x.day(1, 41));
        Check.promise(22, "-5: no LORE either", -5, new NineInMind().day(1, 1));
    }

    /** The DRAWS of a DAY by hand, done by the calls of the face. */
    private static void alike(String sentence, String lore, int seed, int times, int... sizes) {
        NineInMind x = Check.with(lore, sizes);
        NineInMind y = Check.with(lore, sizes);
        int drawn = seed;
        int lost = 0;
        for (int turn = 0; turn < times * sizes.length; turn++) {
            int c = turn % sizes.length;
            drawn = 1103515245 * drawn + 12345;
            int what = (drawn >>> 16) % 4;
            int outOf = what == 0 ? y.count(0) : what == 1 ? y.of(c, 2) : y.count(2);
            if (outOf > 0) {
                drawn = 1103515245 * drawn + 12345;
                int k = (drawn >>> 16) % outOf;
                lost += what == 0 ? (y.hears(c, k) == -1 ? 0 : 1) : what == 1 ? y.says(c, y.of(c, 10 + k)) : y.walks(c, k);
            }
        }
        String told = sentence + ", seed " + seed;
        Check.promise(22, told + ": how many were LOST by all", lost, x.day(seed, times));
        for (int c = 0; c < sizes.length; c++) {
            Check.promise(22, told + ": MIND of " + c, Check.mind(y, c), Check.mind(x, c));
            Check.promise(22, told + ": INN of " + c, y.of(c, 1), x.of(c, 1));
            Check.promise(22, told + ": LOST by " + c, y.of(c, 5), x.of(c, 5));
        }
    }

    private static void dayDraws() {
        NineInMind x = Check.with("things 4;inn;inn 3;inn;", 2);
        Check.promise(22, "2: he WALKS to INN (DRAW modulo INNS)", 0, x.day(seedFor(2, 3, 1), 1));
        Check.promise(22, "2: he is there", 1, x.of(0, 1));
        Check.promise(22, "2: he HEARS its NEWS", 0x13, Check.mind(x, 0));
        String lore = "things 16;rhyme 0 15;rhyme 0 14;rhyme 0 13;inn;inn 3;";
        x = Check.with(lore, 3);
        Check.hear(x, 0, 0, 1, 2);
        Check.promise(22, "1: he SAYS one of his MIND: 1, 2 and 0 LOST", 3, x.day(seedFor(1, 3, 2), 1));
        Check.promise(22, "1: the THING at (DRAW modulo how many he has), the last", 0x1fed, Check.mind(x, 0));
        x = Check.with("things 16;inn;inn 3;", 3);
        Check.promise(22, "0: he HEARS a THING", 0, x.day(seedFor(0, 16, 15), 1));
        Check.promise(22, "0: THING (DRAW modulo THINGS)", 0x1f, Check.mind(x, 0));
        x = Check.with("things 16;inn;inn;inn 3;", 3);
        Check.promise(22, "3: he WALKS, too", 0, x.day(seedFor(3, 3, 2), 1));
        Check.promise(22, "3: to INN (DRAW modulo INNS)", 2, x.of(0, 1));
        for (int seed = 0; seed < 40; seed++) {
            alike("drawn", "things 7;mind 4;rhyme 0 3;rhyme 3 6;inn 1 2;inn;inn 5 6;", seed * 1234567, 20, 2, 4, 1);
        }
    }

    /** The first seed by which the first DRAW modulo 4 and the second one modulo so many are these. */
    private static int seedFor(int what, int outOf, int k) {
        for (int seed = 0; seed < 100000; seed++) {
            int first = 1103515245 * seed + 12345;
            int second = 1103515245 * first + 12345;
            if ((first >>> 16) % 4 == what && (second >>> 16) % outOf == k) {
                return seed;
            }
        }
        return -1;
    }

    private static void dayWithoutInns() {
        // seed 1 draws 16838, 38526, 10113, 50283: modulo 4 that is 2, 2, 1, 3: nothing can be, and no more is drawn
        NineInMind x = Check.with("things 3;", 2);
        Check.promise(22, "without INNS and with nothing in MIND", 0, x.day(1, 4));
        Check.promise(22, "without INNS and with nothing in MIND", 0, x.of(0, 2));
        for (int seed = 0; seed < 20; seed++) {
            alike("if there are INNS (else no more DRAW)", "things 5;rhyme 0 4;", seed * 7654321, 30, 2, 3);
            alike("if he has any (else no more DRAW)", "things 5;inn;inn;", seed * 7654321, 3, 2, 3, 1, 1, 1, 1);
        }
    }

    private static void dayByCouriers() {
        // 16838 modulo 4 is 2, for COURIER 0: 38526 modulo 4 is 2. 10113 modulo 4 is 1, for COURIER 1: he has none.
        // 50283 modulo 4 is 3, for COURIER 2: 63819 modulo 4 is 3
        NineInMind x = Check.with("things 3;inn;inn;inn;inn;", 2, 2, 2);
        Check.promise(22, "COURIER by COURIER", 0, x.day(1, 1));
        Check.promise(22, "COURIER 0", 2, x.of(0, 1));
        Check.promise(22, "COURIER 1", 0, x.of(1, 1));
        Check.promise(22, "COURIER 2", 3, x.of(2, 1));
        alike("all six", "things 16;inn 0 15;inn 14 1;", 99, 12, 1, 2, 3, 4, 5, 9);
        alike("one THING", "things 1;inn 0;", 99, 40, 1);
        alike("one INN", "things 5;inn 0;", 99, 40, 2);
        x = Check.with("things 3;inn 0;inn 1;", 1, 1);
        Check.hear(x, 0, 0, 1, 2, 0, 1);
        int before = x.of(0, 5);
        int lost = x.day(1, 9);
        Check.promise(22, "LOST ahead of the DAY doesn't count", lost + before, x.of(0, 5) + x.of(1, 5));
        Check.promise(22, "there was something LOST ahead of it", 4, before);
    }

    private static void dayWrapsAround() {
        for (int seed : new int[] {0, -1, Integer.MIN_VALUE, Integer.MAX_VALUE, Integer.MIN_VALUE + 1, 1 << 30, -12345}) {
            alike("x is an int", "things 7;rhyme 0 3;inn 1 2;inn;inn 5 6;", seed, 25, 2, 3);
        }
    }
}
