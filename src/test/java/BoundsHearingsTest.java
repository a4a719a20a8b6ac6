/** Promises 23 to 30 and the terms of HEARINGS: each sentence that names a boundary has a test of its own. */
public final class BoundsHearingsTest {
    private static final int[] FAR = {-1, Integer.MIN_VALUE, Integer.MAX_VALUE, 32};
    private static final int[] NO_SIZES = {0, 10, -1, Integer.MIN_VALUE, Integer.MAX_VALUE, 33};
    private static final long[] NO_THINGS = {-1, 6, 16, 64, 1L << 32, (1L << 32) + 1, Long.MIN_VALUE, Long.MAX_VALUE};

    public static void main(String[] args) {
        sizesOneToNine();
        rowOfNone();
        rowOfForty();
        newOnesBySaying();
        newOnesByComing();
        newOnesByForesight();
        freshRefused();
        keptBySaying();
        keptByComing();
        keptRefused();
        lessFromOneToEight();
        lessRefused();
        enoughFromOneToNine();
        enoughRefused();
        farBack();
        farBackRefused();
        throughSizes();
        throughInns();
        throughRefused();
        sizeFor();
        sizeForRefused();
        numbersThatAreNoThings();
        toldSets();
        toldOrders();
        toldPlaces();
        toldRefused();
        Check.end("BoundsHearingsTest");
    }

    private static NineInMind with(String lore, long... row) {
        NineInMind x = Check.withLore(lore);
        Check.row(x, 0, row);
        return x;
    }

    private static long[] row(long... things) {
        return things;
    }

    // ---- promise 23

    private static void sizesOneToNine() {
        NineInMind x = with("things 16;mind 1;", 0, 1, 2, 3, 4, 5, 6, 7, 8, 0, 1, 2, 3, 4, 5, 6, 7, 8);
        for (int law = 0; law < 2; law++) {
            for (int size = 1; size < 9; size++) {
                Check.promise(23, "size " + size + ", law " + law + ": none is there again", 18, x.fresh(0, size, law));
            }
            Check.promise(23, "size 9, law " + law + ", above mind: all are there again", 9, x.fresh(0, 9, law));
        }
        Check.promise(23, "size 1 by FORESIGHT", 18, x.fresh(0, 1, 2));
        Check.promise(23, "size 8 by FORESIGHT: one is driven out twice", 10, x.fresh(0, 8, 2));
        Check.promise(23, "size 9 by FORESIGHT", 9, x.fresh(0, 9, 2));
        for (int size : NO_SIZES) {
            for (int law = 0; law < 3; law++) {
                Check.promise(23, "-3: a size, " + size, -3, x.fresh(0, size, law));
            }
        }
    }

    private static void rowOfNone() {
        NineInMind x = with("things 6;inn;");
        for (int law = 0; law < 3; law++) {
            Check.promise(23, "a ROW of none has no NEW ones", 0, x.fresh(0, 1, law));
            Check.promise(26, "a ROW of none is enough with 1", 1, x.enough(0, 0, law));
        }
        Check.promise(24, "a ROW of none: none is in mind", 0, x.kept(0, 1, 0));
        Check.promise(24, "a ROW of none: none is in mind", 0, x.kept(0, 9, 1));
        Check.promise(25, "a ROW of none: NONE", -1, x.less(0));
        Check.promise(27, "a ROW of none: no place 0", -7, x.farBack(0, 0));
        Check.promise(28, "a ROW of none: nothing comes THROUGH", 0, x.through(0, 1, 0));
        Check.promise(29, "a ROW of none: all of it comes with 1", 1, x.sizeFor(0, 0));
        x = new NineInMind();
        x.numbers(0, 0, 0);
        Check.promise(23, "a ROW of none without THINGS", 0, x.fresh(0, 1, 2));
        Check.promise(25, "a ROW of none without THINGS", -1, x.less(0));
        x.numbers(0, 0, 1);
        Check.promise(23, "-3: without THINGS 0 is none", -3, x.fresh(0, 1, 2));
    }

    private static void rowOfForty() {
        long[] forty = new long[40];
        for (int i = 0; i < 40; i++) {
            forty[i] = i % 16;
        }
        NineInMind x = with("things 16;", forty);
        for (int law = 0; law < 2; law++) {
            Check.promise(23, "40 numbers, all NEW, law " + law, 40, x.fresh(0, 9, law));
            // the last nine: 15, 0 to 7
            Check.promise(24, "40 numbers, the last nine, law " + law, 0x80ff, x.kept(0, 9, law));
        }
        Check.promise(27, "the last place of 40", 16, x.farBack(0, 39));
        Check.promise(27, "-7: behind the last place", -7, x.farBack(0, 40));
        forty[39] = 16;
        Check.row(x, 0, forty);
        Check.promise(23, "-3: the last number is no THING", -3, x.fresh(0, 9, 0));
    }

    private static void newOnesBySaying() {
        NineInMind x = with("things 16;", 0, 1, 0, 2, 0, 1);
        // 0, 1 NEW, 0 there. 2 NEW: 1 was heard longest ago. 0 there. 1 NEW
        Check.promise(23, "by SAYING: the one that was heard longest ago is driven out", 4, x.fresh(0, 2, 0));
        Check.row(x, 0, 15, 15, 15);
        Check.promise(23, "one that is there isn't NEW", 1, x.fresh(0, 1, 0));
        Check.row(x, 0, 0, 1, 2, 0);
        Check.promise(23, "just full: none is driven out", 3, x.fresh(0, 3, 0));
    }

    private static void newOnesByComing() {
        NineInMind x = with("things 16;", 0, 1, 0, 2, 0, 1);
        // 0, 1 NEW, 0 there. 2 NEW: 0 came in longest ago. 0 NEW: 1 goes. 1 NEW
        Check.promise(23, "by COMING: the one that came in longest ago is driven out", 5, x.fresh(0, 2, 1));
        // 0, 1, 2 drives out 0, 0 drives out 1: 0 came in anew, so 3 drives out 2
        Check.row(x, 0, 0, 1, 2, 0, 3, 0, 2);
        Check.promise(23, "by COMING: as NEW, again", 6, x.fresh(0, 2, 1));
    }

    private static void newOnesByForesight() {
        NineInMind x = with("things 16;", 0, 1, 2, 0, 1);
        Check.promise(23, "by FORESIGHT: the least that can be", 4, x.fresh(0, 2, 2));
        Check.row(x, 0, 7, 0, 1, 2, 0, 3, 0, 4, 2, 3, 0, 3, 2, 1, 2, 0, 1, 7, 0, 1);
        Check.promise(23, "a long row by SAYING", 12, x.fresh(0, 3, 0));
        Check.promise(23, "a long row by COMING", 15, x.fresh(0, 3, 1));
        Check.promise(23, "a long row by FORESIGHT", 9, x.fresh(0, 3, 2));
        Check.row(x, 0, 0, 1, 0);
        Check.promise(23, "by FORESIGHT with size 1: what is heard comes in", 3, x.fresh(0, 1, 2));
        Check.row(x, 0, 0, 1, 2, 3, 0, 1, 4, 0, 1, 2, 3, 4);
        Check.promise(23, "by FORESIGHT with size 3", 7, x.fresh(0, 3, 2));
        Check.promise(23, "by FORESIGHT with size 4", 6, x.fresh(0, 4, 2));
        Check.promise(23, "by FORESIGHT: unlike ones at the least", 5, x.fresh(0, 5, 2));
    }

    private static void freshRefused() {
        NineInMind x = with("things 6;", 0, 1);
        for (int far : FAR) {
            Check.promise(23, "-2: no ROW " + far, -2, x.fresh(far, 1, 0));
            Check.promise(23, "-2: no law " + far, -2, x.fresh(0, 1, far));
        }
        Check.promise(23, "-2: the ROW behind the last", -2, x.fresh(4, 1, 0));
        Check.promise(23, "-2: the law behind the last", -2, x.fresh(0, 1, 3));
        Check.promise(23, "-6: a ROW that is MISSING", -6, x.fresh(3, 1, 0));
        Check.promise(23, "-2 ahead of -6: the law", -2, x.fresh(3, 1, 3));
        Check.promise(23, "-2 ahead of -3: the law", -2, x.fresh(0, 0, 3));
        Check.promise(23, "-6 ahead of -3", -6, x.fresh(3, 0, 0));
        Check.row(x, 0, 9);
        Check.promise(23, "-2 ahead of -3: a number", -2, x.fresh(0, 1, -1));
    }

    // ---- promise 24

    private static void keptBySaying() {
        NineInMind x = with("things 16;", 0, 1, 0, 15);
        Check.promise(24, "by SAYING with size 1: the last", 1 << 15, x.kept(0, 1, 0));
        Check.promise(24, "by SAYING with size 2: those heard last", 1 << 15 | 1, x.kept(0, 2, 0));
        Check.promise(24, "by SAYING just full", 1 << 15 | 3, x.kept(0, 3, 0));
        Check.promise(24, "by SAYING with room", 1 << 15 | 3, x.kept(0, 9, 0));
    }

    private static void keptByComing() {
        NineInMind x = with("things 16;", 0, 1, 0, 15);
        Check.promise(24, "by COMING with size 1: the last", 1 << 15, x.kept(0, 1, 1));
        Check.promise(24, "by COMING with size 2: those that came in last", 1 << 15 | 2, x.kept(0, 2, 1));
        Check.promise(24, "by COMING just full", 1 << 15 | 3, x.kept(0, 3, 1));
        Check.promise(24, "by COMING with room", 1 << 15 | 3, x.kept(0, 9, 1));
    }

    private static void keptRefused() {
        NineInMind x = with("things 6;", 0, 1);
        for (int far : FAR) {
            Check.promise(24, "-2: no ROW " + far, -2, x.kept(far, 1, 0));
            Check.promise(24, "-2: no law " + far, -2, x.kept(0, 1, far));
        }
        Check.promise(24, "-2: the ROW behind the last", -2, x.kept(4, 1, 0));
        Check.promise(24, "-2: FORESIGHT is no law here", -2, x.kept(0, 1, 2));
        Check.promise(24, "-6: a ROW that is MISSING", -6, x.kept(3, 1, 0));
        Check.promise(24, "-2 ahead of -6", -2, x.kept(3, 1, 2));
        Check.promise(24, "-2 ahead of -3", -2, x.kept(0, 0, 2));
        Check.promise(24, "-6 ahead of -3", -6, x.kept(3, 0, 0));
        for (int size : NO_SIZES) {
            Check.promise(24, "-3: a size, " + size, -3, x.kept(0, size, 0));
            Check.promise(24, "-3: a size, " + size, -3, x.kept(0, size, 1));
        }
    }

    // ---- promise 25

    private static void lessFromOneToEight() {
        NineInMind x = with("things 16;", 0, 1, 2, 3, 0, 1, 4, 0, 1, 2, 3, 4);
        Check.promise(25, "9 are NEW with size 3", 9, x.fresh(0, 3, 1));
        Check.promise(25, "10 are NEW with size 4", 10, x.fresh(0, 4, 1));
        Check.promise(25, "the least size with which fewer are NEW than with one more", 3, x.less(0));
        Check.row(x, 0, 0, 1, 2, 3, 4, 5);
        Check.promise(25, "NONE: as many with each size", -1, x.less(0));
        Check.row(x, 0, 0, 1, 2, 0, 1, 2);
        Check.promise(25, "NONE: fewer with one more", -1, x.less(0));
        Check.row(x, 0, 6, 1, 10, 11, 10, 12, 11, 2, 3, 8, 6, 3, 10, 12, 0, 6, 2, 12, 5, 4,
                2, 10, 10, 7, 12, 6, 6, 1, 10, 9, 12, 10, 10, 2, 8, 5, 11, 5, 7, 3);
        Check.promise(25, "fewer with 8 than with 9", 1, x.fresh(0, 8, 1) < x.fresh(0, 9, 1) ? 1 : 0);
        Check.promise(25, "the greatest size is 8", 8, x.less(0));
        Check.row(x, 0, 4, 4, 12, 10, 5, 3, 1, 8, 7, 9, 0, 5, 7, 9, 2, 7, 1, 0, 12, 0,
                8, 10, 7, 13, 7, 11, 4, 6, 12, 5, 10, 13, 3, 11, 2, 8, 1, 2, 13, 0);
        Check.promise(25, "NONE: with 9 fewer are NEW than with 10, but 9 is too great", -1, x.less(0));
    }

    private static void lessRefused() {
        NineInMind x = with("things 6;", 0, 9);
        for (int far : FAR) {
            Check.promise(25, "-2: no ROW " + far, -2, x.less(far));
        }
        Check.promise(25, "-2: the ROW behind the last", -2, x.less(4));
        Check.promise(25, "-6: a ROW that is MISSING", -6, x.less(3));
        Check.promise(25, "-3: a number that is no THING", -3, x.less(0));
    }

    // ---- promise 26

    private static void enoughFromOneToNine() {
        NineInMind x = with("things 16;", 0, 1, 2, 3, 4, 5, 6, 7, 8, 0, 1, 2, 3, 4, 5, 6, 7, 8);
        for (int law = 0; law < 3; law++) {
            Check.promise(26, "the greatest size, law " + law, 9, x.enough(0, 9, law));
            Check.promise(26, "NONE: with none, law " + law, -1, x.enough(0, 8, law));
            Check.promise(26, "NONE: no more than none, law " + law, -1, x.enough(0, 0, law));
            Check.promise(26, "the least size, law " + law, 1, x.enough(0, 18, law));
            Check.promise(26, "more than there are, law " + law, 1, x.enough(0, Integer.MAX_VALUE, law));
            Check.promise(26, "NONE: below 0, law " + law, -1, x.enough(0, -1, law));
            Check.promise(26, "NONE: far below 0, law " + law, -1, x.enough(0, Integer.MIN_VALUE, law));
        }
        for (int law = 0; law < 2; law++) {
            Check.promise(26, "one less than all, law " + law, 9, x.enough(0, 17, law));
        }
        Check.promise(26, "by FORESIGHT: no more than so many", 8, x.enough(0, 10, 2));
        Check.row(x, 0, 0, 1, 2, 3, 0, 1, 4, 0, 1, 2, 3, 4);
        Check.promise(26, "by COMING: the least size, though the next one is none", 3, x.enough(0, 9, 1));
        Check.row(x, 0);
        Check.promise(26, "a ROW of none, below 0", -1, x.enough(0, -1, 0));
    }

    private static void enoughRefused() {
        NineInMind x = with("things 6;", 0, 1);
        for (int far : FAR) {
            Check.promise(26, "-2: no ROW " + far, -2, x.enough(far, 1, 0));
            Check.promise(26, "-2: no law " + far, -2, x.enough(0, 1, far));
        }
        Check.promise(26, "-2: the ROW behind the last", -2, x.enough(4, 1, 0));
        Check.promise(26, "-2: the law behind the last", -2, x.enough(0, 1, 3));
        Check.promise(26, "-6: a ROW that is MISSING", -6, x.enough(3, 1, 0));
        Check.promise(26, "-2 ahead of -6", -2, x.enough(3, 1, 3));
        Check.row(x, 0, 9);
        Check.promise(26, "-3: a number that is no THING", -3, x.enough(0, 9, 0));
        Check.promise(26, "-3: whatever so many is", -3, x.enough(0, -1, 2));
        Check.promise(26, "-2 ahead of -3", -2, x.enough(0, 9, 3));
    }

    // ---- promise 27

    private static void farBack() {
        NineInMind x = with("things 16;", 0, 0, 1, 2, 1, 0, 15, 0, 15, 1, 2, 3);
        int[] due = {-1, 1, -1, -1, 2, 3, -1, 2, 2, 3, 4, -1};
        for (int i = 0; i < due.length; i++) {
            String told = due[i] == -1 ? "NONE: it stands there for the first time" : "unlike ones from where it stood last";
            Check.promise(27, told + ", place " + i, due[i], x.farBack(0, i));
        }
        long[] all = new long[18];
        for (int i = 0; i < 18; i++) {
            all[i] = i % 16;
        }
        Check.row(x, 0, all);
        Check.promise(27, "all THINGS are between", 16, x.farBack(0, 16));
        Check.promise(27, "all THINGS are between", 16, x.farBack(0, 17));
    }

    private static void farBackRefused() {
        NineInMind x = with("things 6;", 0, 0);
        for (int far : FAR) {
            Check.promise(27, "-2: no ROW " + far, -2, x.farBack(far, 0));
            Check.promise(27, "-7: there is no place " + far, -7, x.farBack(0, far));
        }
        Check.promise(27, "-2: the ROW behind the last", -2, x.farBack(4, 0));
        Check.promise(27, "-7: the place behind the last", -7, x.farBack(0, 2));
        Check.promise(27, "-6: a ROW that is MISSING", -6, x.farBack(3, 0));
        Check.promise(27, "-6 ahead of -7", -6, x.farBack(3, 99));
        Check.row(x, 0, 0, 0, 9);
        Check.promise(27, "-3: that number is no THING", -3, x.farBack(0, 2));
        Check.promise(27, "-3: another number is no THING", -3, x.farBack(0, 1));
        Check.promise(27, "-7 ahead of -3", -7, x.farBack(0, 3));
    }

    // ---- promises 28 and 29

    private static void throughSizes() {
        NineInMind x = with("things 16;mind 1;inn;", 0, 1, 2, 3, 4, 5, 6, 7, 15);
        Check.promise(28, "size 1", 1 << 15, x.through(0, 1, 0));
        Check.promise(28, "size 8, above mind", 0x80fe, x.through(0, 8, 0));
        Check.promise(28, "size 9", 0x80ff, x.through(0, 9, 0));
        for (int size : NO_SIZES) {
            Check.promise(28, "-3: a size, " + size, -3, x.through(0, size, 0));
        }
    }

    private static void throughInns() {
        NineInMind x = with("things 16;rhyme 0 15;rhyme 0 14;inn 5;inn 4;inn 3 4;", 0, 1);
        Check.promise(28, "he is at INN 0, and HEARS no NEWS of it", 3 | 1 << 15 | 1 << 14, x.through(0, 4, 0));
        Check.promise(28, "one by one to the last INN", 1 << 4 | 1 << 3 | 1 << 1, x.through(0, 3, 2));
        // 4 1 0. 0: 0 4 1, 14 0 4, 15 14 0. 1, 4: gone
        Check.promise(28, "what he SAYS drives out what he has to say", 1 | 1 << 15 | 1 << 14, x.through(0, 3, 1));
        Check.promise(28, "COURIERS are of no matter", 0, x.count(3));
        x = with("things 2;inn;inn;inn;inn;inn;inn;inn;inn;inn;inn 1;");
        Check.promise(28, "INN 9", 2, x.through(0, 1, 9));
        Check.promise(28, "INN 8", 0, x.through(0, 1, 8));
        Check.promise(28, "-2: INN 10", -2, x.through(0, 1, 10));
    }

    private static void throughRefused() {
        NineInMind x = with("things 6;inn;inn;", 0, 1);
        for (int far : FAR) {
            Check.promise(28, "-2: no ROW " + far, -2, x.through(far, 1, 0));
            Check.promise(28, "-2: no INN " + far, -2, x.through(0, 1, far));
        }
        Check.promise(28, "-2: the ROW behind the last", -2, x.through(4, 1, 0));
        Check.promise(28, "-2: the INN behind the last", -2, x.through(0, 1, 2));
        Check.promise(28, "-6: a ROW that is MISSING", -6, x.through(3, 1, 0));
        Check.promise(28, "-2 ahead of -6: the INN", -2, x.through(3, 1, 2));
        Check.promise(28, "-2 ahead of -3: the INN", -2, x.through(0, 0, 2));
        Check.promise(28, "-6 ahead of -3", -6, x.through(3, 0, 0));
        Check.promise(28, "-2: there are no INNS", -2, with("things 6;", 0).through(0, 1, 0));
    }

    private static void sizeFor() {
        NineInMind x = with("things 16;inn;inn 9;", 0, 1, 2, 3, 4, 5, 6, 7, 15);
        Check.promise(29, "the greatest size", 9, x.sizeFor(0, 0));
        Check.promise(29, "NONE: with none, for there are NEWS", -1, x.sizeFor(0, 1));
        Check.row(x, 0, 0, 1, 2, 3, 4, 5, 6, 7, 9);
        Check.promise(29, "what is NEWS is heard anyway", 9, x.sizeFor(0, 1));
        Check.row(x, 0, 0, 1, 2, 3, 4, 5, 6, 7, 8, 9);
        Check.promise(29, "NONE: ten", -1, x.sizeFor(0, 0));
        Check.row(x, 0, 3, 3, 3);
        Check.promise(29, "the least size", 1, x.sizeFor(0, 0));
        x = with("things 16;rhyme 0 15;inn;", 15, 0);
        Check.promise(29, "what rhymes comes THROUGH, too", 1, x.sizeFor(0, 0));
        // with 2: 0: 0 1, 3 0, 4 3, and 1 is gone. With 1: 1, and it brings 0
        x = with("things 5;rhyme 1 0;rhyme 0 3;rhyme 0 4;inn;", 0, 1);
        Check.promise(29, "the next size is none", 25, x.through(0, 2, 0));
        Check.promise(29, "the least, though the next one is none", 1, x.sizeFor(0, 0));
    }

    private static void sizeForRefused() {
        NineInMind x = with("things 6;inn;inn;", 0, 1);
        for (int far : FAR) {
            Check.promise(29, "-2: no ROW " + far, -2, x.sizeFor(far, 0));
            Check.promise(29, "-2: no INN " + far, -2, x.sizeFor(0, far));
        }
        Check.promise(29, "-2: the ROW behind the last", -2, x.sizeFor(4, 0));
        Check.promise(29, "-2: the INN behind the last", -2, x.sizeFor(0, 2));
        Check.promise(29, "-6: a ROW that is MISSING", -6, x.sizeFor(3, 0));
        Check.promise(29, "-2 ahead of -6: the INN", -2, x.sizeFor(3, 2));
        Check.row(x, 0, 9);
        Check.promise(29, "-2 ahead of -3: the INN", -2, x.sizeFor(0, 2));
        Check.promise(29, "-2: there are no INNS", -2, with("things 6;", 0).sizeFor(0, 0));
    }

    private static void numbersThatAreNoThings() {
        NineInMind x = with("things 6;inn;");
        for (long no : NO_THINGS) {
            for (long[] row : new long[][] {row(no), row(no, 0, 1), row(0, no, 1), row(0, 1, no)}) {
                Check.row(x, 0, row);
                Check.promise(23, "-3: a number that is no THING, " + no, -3, x.fresh(0, 3, 0));
                Check.promise(24, "-3: a number that is no THING, " + no, -3, x.kept(0, 3, 1));
                Check.promise(25, "-3: a number that is no THING, " + no, -3, x.less(0));
                Check.promise(26, "-3: a number that is no THING, " + no, -3, x.enough(0, 9, 2));
                Check.promise(27, "-3: a number that is no THING, " + no, -3, x.farBack(0, 0));
                Check.promise(28, "-3: a number that is no THING, " + no, -3, x.through(0, 3, 0));
                Check.promise(29, "-3: a number that is no THING, " + no, -3, x.sizeFor(0, 0));
            }
        }
    }

    // ---- promise 30

    private static void toldSets() {
        NineInMind x = with("things 16;inn;inn 7;");
        Check.promise(30, "a set of none: the sum", 0, x.told(0, 1, 0, 0));
        Check.promise(30, "a set of none: THROUGH", 0, x.told(0, 1, 0, 1));
        Check.promise(30, "a set of none: NONE", -1, x.told(0, 1, 0, 10));
        Check.promise(30, "a set of none: NEWS come THROUGH", 1 << 7, x.told(0, 1, 1, 1));
        Check.promise(30, "the greatest THING", 1 << 15, x.told(1 << 15, 1, 0, 1));
        Check.promise(30, "a set of 6", 6, x.told(0x3f, 9, 0, 0));
        Check.promise(30, "a set of 6: THROUGH", 0x3f, x.told(0x3f, 6, 0, 1));
        Check.promise(30, "a set of 6: a mind of 5", 5, x.told(0x3f, 5, 0, 0));
        Check.promise(30, "-3: of more than 6", -3, x.told(0x7f, 9, 0, 0));
        Check.promise(30, "-3: of more than 6, all", -3, x.told(0xffff, 9, 0, 0));
        Check.promise(30, "-3: a set with others", -3, x.told(1 << 16, 9, 0, 0));
        Check.promise(30, "-3: a set with others", -3, x.told(1 << 16 | 1, 9, 0, 0));
        Check.promise(30, "-3: a set with others, bit 31", -3, x.told(Integer.MIN_VALUE, 9, 0, 0));
        Check.promise(30, "-3: a set with others, below 0", -3, x.told(-1, 9, 0, 0));
        x = with("things 6;inn;");
        Check.promise(30, "-3: the THING behind the last", -3, x.told(64, 9, 0, 0));
        Check.promise(30, "all THINGS", 6, x.told(63, 9, 0, 0));
    }

    private static void toldOrders() {
        NineInMind x = with("things 8;worth 0 9;worth 2 9;worth 3 0;worth 4 0;inn;");
        int[] all = {0, 2, 3, 4};
        for (int k = 0; k < 4; k++) {
            Check.promise(30, "of like ones the first by THINGS", all[k], x.told(0x1d, 9, 0, 10 + k));
        }
        int[] last = {3, 4, 0, 2};
        for (int k = 0; k < 4; k++) {
            Check.promise(30, "a mind of 2 should have 0 and 2", last[k], x.told(0x1d, 2, 0, 10 + k));
        }
        int[] one = {0, 3, 4, 2};
        for (int k = 0; k < 4; k++) {
            Check.promise(30, "a mind of 1 should have 0 or 2: the first by THINGS", one[k], x.told(0x1d, 1, 0, 10 + k));
        }
        Check.promise(30, "a mind of 1: the sum", 9, x.told(0x1d, 1, 0, 0));
        Check.promise(30, "a mind of 1: THROUGH", 4, x.told(0x1d, 1, 0, 1));
        x = with("things 8;worth 0 0;worth 1 0;inn;");
        Check.promise(30, "all sums 0: the first order", 0, x.told(3, 1, 0, 10));
        Check.promise(30, "all sums 0: what it brings", 2, x.told(3, 1, 0, 1));
    }

    private static void toldPlaces() {
        NineInMind x = with("things 16;inn;");
        for (int many = 0; many <= 6; many++) {
            for (int k = 0; k < 6; k++) {
                Check.promise(30, k < many ? "the k-th THING that is told" : "NONE: not so many",
                        k < many ? k : -1, x.told((1 << many) - 1, 9, 0, 10 + k));
            }
        }
        for (int what : new int[] {2, 3, 9, 16, 17, -1, Integer.MIN_VALUE, Integer.MAX_VALUE}) {
            Check.promise(30, "-2: what (10 to 15), " + what, -2, x.told(3, 9, 0, what));
        }
    }

    private static void toldRefused() {
        NineInMind x = with("things 6;inn;inn;");
        for (int far : FAR) {
            Check.promise(30, "-2: no INN " + far, -2, x.told(3, 9, far, 0));
        }
        Check.promise(30, "-2: the INN behind the last", -2, x.told(3, 9, 2, 0));
        Check.promise(30, "-2 ahead of -3: the INN, a set", -2, x.told(64, 9, 2, 0));
        Check.promise(30, "-2 ahead of -3: the INN, a size", -2, x.told(3, 0, 2, 0));
        Check.promise(30, "-2 ahead of -3: what, a set", -2, x.told(64, 9, 0, 16));
        for (int size : NO_SIZES) {
            Check.promise(30, "-3: a size, " + size, -3, x.told(3, size, 0, 0));
        }
        Check.promise(30, "size 1", 1, x.told(3, 1, 0, 0));
        Check.promise(30, "-2: there are no INNS", -2, with("things 6;").told(3, 9, 0, 0));
        Check.promise(30, "-2: there is no LORE", -2, new NineInMind().told(0, 9, 0, 0));
    }
}
