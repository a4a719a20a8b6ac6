/** Promises 23 to 30: hearings, what comes through, the best order of telling. */
public final class HearingsTest {
    public static void main(String[] args) {
        fresh();
        kept();
        less();
        enough();
        farBack();
        through();
        sizeFor();
        told();
        refused();
        Check.end("HearingsTest");
    }

    /** Promise 23. */
    private static void fresh() {
        NineInMind x = Check.withLore("things 16;mind 2;");
        Check.row(x, 0, 0, 1, 2, 0, 3, 0, 1);
        // saying: 0 1 2 new, 0 there, 3 drives out 1, 0 there, 1 new
        Check.due("fresh(0, 3, 0)", 5, x.fresh(0, 3, 0));
        // coming: 0 1 2 new, 0 there, 3 drives out 0, 0 drives out 1, 1 new
        Check.due("fresh(0, 3, 1)", 6, x.fresh(0, 3, 1));
        // foresight: 3 drives out 2
        Check.due("fresh(0, 3, 2)", 4, x.fresh(0, 3, 2));
        for (int law = 0; law < 3; law++) {
            Check.due("size 1", 7, x.fresh(0, 1, law));
            Check.due("size 9, above mind", 4, x.fresh(0, 9, law));
        }
        // what was heard comes in, whatever goes: with size 1 foresight is of no use
        Check.row(x, 1, 0, 1, 0);
        Check.due("size 1 by foresight", 3, x.fresh(1, 1, 2));
        Check.row(x, 1);
        Check.due("an empty row", 0, x.fresh(1, 1, 2));
        Check.row(x, 1, 15, 15, 15);
        Check.due("one thing", 1, x.fresh(1, 1, 0));
    }

    /** Promise 24. */
    private static void kept() {
        NineInMind x = Check.withLore("things 16;");
        Check.row(x, 0, 0, 1, 2, 0, 3);
        Check.due("kept(0, 3, 0)", 1 | 1 << 2 | 1 << 3, x.kept(0, 3, 0));
        Check.due("kept(0, 3, 1)", 1 << 1 | 1 << 2 | 1 << 3, x.kept(0, 3, 1));
        Check.due("kept(0, 3, 2)", -2, x.kept(0, 3, 2));
        Check.due("kept(0, 9, 0)", 15, x.kept(0, 9, 0));
        Check.due("kept(0, 1, 1)", 8, x.kept(0, 1, 1));
        Check.row(x, 0);
        Check.due("kept of nothing", 0, x.kept(0, 1, 1));
    }

    /** Promise 25. */
    private static void less() {
        NineInMind x = Check.withLore("things 16;");
        Check.row(x, 0, 0, 1, 2, 3, 0, 1, 4, 0, 1, 2, 3, 4);
        Check.due("less(0)", 3, x.less(0));
        Check.row(x, 0, 0, 1, 2, 3, 4, 5);
        Check.due("less(0) without", -1, x.less(0));
        Check.row(x, 0);
        Check.due("less(0) of nothing", -1, x.less(0));
        Check.row(x, 0, 6, 1, 10, 11, 10, 12, 11, 2, 3, 8, 6, 3, 10, 12, 0, 6, 2, 12, 5, 4,
                2, 10, 10, 7, 12, 6, 6, 1, 10, 9, 12, 10, 10, 2, 8, 5, 11, 5, 7, 3);
        Check.due("less(0) with the greatest size", 8, x.less(0));
        // with 10 more are new than with 9, but 9 is no size that counts
        Check.row(x, 0, 4, 4, 12, 10, 5, 3, 1, 8, 7, 9, 0, 5, 7, 9, 2, 7, 1, 0, 12, 0,
                8, 10, 7, 13, 7, 11, 4, 6, 12, 5, 10, 13, 3, 11, 2, 8, 1, 2, 13, 0);
        Check.due("less(0) beyond the sizes", -1, x.less(0));
    }

    /** Promise 26. */
    private static void enough() {
        NineInMind x = Check.withLore("things 16;");
        Check.row(x, 0, 0, 1, 2, 0, 3, 0, 1);
        Check.due("enough(0, 7, 0)", 1, x.enough(0, 7, 0));
        Check.due("enough(0, 6, 1)", 2, x.enough(0, 6, 1));
        Check.due("enough(0, 5, 1)", 4, x.enough(0, 5, 1));
        Check.due("enough(0, 5, 0)", 3, x.enough(0, 5, 0));
        Check.due("enough(0, 4, 0)", 4, x.enough(0, 4, 0));
        Check.due("enough(0, 4, 2)", 3, x.enough(0, 4, 2));
        Check.due("enough(0, 3, 2)", -1, x.enough(0, 3, 2));
        Check.due("enough(0, -1, 2)", -1, x.enough(0, -1, 2));
        Check.row(x, 0);
        Check.due("enough of nothing", 1, x.enough(0, 0, 2));
        Check.due("fewer than nothing", -1, x.enough(0, -1, 0));
    }

    /** Promise 27. */
    private static void farBack() {
        NineInMind x = Check.withLore("things 4;");
        Check.row(x, 0, 0, 1, 1, 2, 0, 0, 1, 3);
        long[] due = {-1, -1, 1, -1, 3, 1, 3, -1};
        for (int i = 0; i < due.length; i++) {
            Check.due("farBack(0, " + i + ")", due[i], x.farBack(0, i));
        }
        Check.due("farBack(0, 8)", -7, x.farBack(0, 8));
        Check.due("farBack(0, -1)", -7, x.farBack(0, -1));
        Check.due("farBack(1, 0)", -6, x.farBack(1, 0));
        Check.due("farBack(4, 0)", -2, x.farBack(4, 0));
        Check.row(x, 0, 1, 1, 4);
        Check.due("another number is no thing", -3, x.farBack(0, 1));
        Check.due("no place, no thing", -7, x.farBack(0, 3));
    }

    /** Promise 28. */
    private static void through() {
        NineInMind x = Check.withLore("things 6;mind 1;rhyme 0 5;inn 3;inn 4;inn 4 1;");
        Check.row(x, 0, 0, 2);
        Check.due("at the first inn, no news", 1 << 2, x.through(0, 1, 0));
        // 0: 0 2, 5 0. 2: gone
        Check.due("0 is said first and drives out 2", 1 | 1 << 5, x.through(0, 2, 0));
        Check.due("size 3", 1 | 1 << 2 | 1 << 5, x.through(0, 3, 0));
        Check.due("on the way", 1 << 4 | 1 << 2, x.through(0, 2, 1));
        // 1 4 2 0. 0: 0 1 4 2, 5 0 1 4. 2: gone. 4, 1
        Check.due("up to the last", 1 | 1 << 5 | 1 << 4 | 1 << 1, x.through(0, 4, 2));
        Check.row(x, 0);
        Check.due("nothing but news", 1 << 4 | 1 << 1, x.through(0, 9, 2));
        Check.due("no such inn", -2, x.through(0, 1, 3));
        Check.due("no such inn", -2, x.through(0, 1, -1));
    }

    /** Promise 29. */
    private static void sizeFor() {
        NineInMind x = Check.withLore("things 6;mind 1;rhyme 0 5;inn 3;inn 4;inn 4 1;");
        Check.row(x, 0, 0, 2);
        Check.due("sizeFor(0, 0)", 3, x.sizeFor(0, 0));
        Check.due("sizeFor(0, 1)", 4, x.sizeFor(0, 1));
        Check.due("sizeFor(0, 2)", 5, x.sizeFor(0, 2));
        Check.row(x, 0, 0, 5);
        // by size 1: 5 alone. By 2: 0 is said, and 5 with it
        Check.due("rhymes help", 2, x.sizeFor(0, 0));
        Check.row(x, 0);
        Check.due("nothing", 1, x.sizeFor(0, 2));
        Check.due("no such inn", -2, x.sizeFor(0, 3));
        x = Check.withLore("things 16;inn;");
        Check.row(x, 0, 0, 1, 2, 3, 4, 5, 6, 7, 8);
        Check.due("nine", 9, x.sizeFor(0, 0));
        Check.row(x, 0, 0, 1, 2, 3, 4, 5, 6, 7, 8, 9);
        Check.due("ten", -1, x.sizeFor(0, 0));
    }

    /** Promise 30. */
    private static void told() {
        NineInMind x = Check.withLore("things 8;worth 3 9;worth 5 0;rhyme 1 5;rhyme 1 3;inn;inn 6;");
        // of 0, 2, 3 a mind of 2 keeps the last two: 3 should be among them
        Check.due("told(13, 2, 0, 0)", 10, x.told(13, 2, 0, 0));
        Check.due("told(13, 2, 0, 1)", 12, x.told(13, 2, 0, 1));
        Check.due("told(13, 2, 0, 10)", 0, x.told(13, 2, 0, 10));
        Check.due("told(13, 2, 0, 11)", 2, x.told(13, 2, 0, 11));
        Check.due("told(13, 2, 0, 12)", 3, x.told(13, 2, 0, 12));
        Check.due("told(13, 2, 0, 13)", -1, x.told(13, 2, 0, 13));
        Check.due("told(13, 2, 0, 15)", -1, x.told(13, 2, 0, 15));
        // with 6 heard on the way one place is left, and it is for the last one told
        Check.due("told(13, 2, 1, 1)", 1 << 6 | 1 << 3, x.told(13, 2, 1, 1));
        // 1 brings 3 and 5 with it, and drives out what is said later: 0 1 by size 2: 0, then 1 with 3, 5
        Check.due("told(3, 2, 0, 0)", 11, x.told(3, 2, 0, 0));
        Check.due("told(3, 2, 0, 1)", 43, x.told(3, 2, 0, 1));
        Check.due("told(3, 2, 0, 10)", 0, x.told(3, 2, 0, 10));
        Check.due("an empty set", 64, x.told(0, 3, 1, 1));
        Check.due("an empty set", -1, x.told(0, 3, 1, 10));
        Check.due("six", 5 + 9, x.told(0x9f, 9, 0, 0));
        Check.due("seven", -3, x.told(0x7f, 9, 0, 0));
        Check.due("a set with others", -3, x.told(256, 9, 0, 0));
        Check.due("a set with others", -3, x.told(-1, 9, 0, 0));
        Check.due("size 0", -3, x.told(1, 0, 0, 0));
        Check.due("size 10", -3, x.told(1, 10, 0, 0));
        Check.due("what 2", -2, x.told(1, 10, 0, 2));
        Check.due("what 9", -2, x.told(1, 1, 0, 9));
        Check.due("what 16", -2, x.told(1, 1, 0, 16));
        Check.due("what -1", -2, x.told(1, 1, 0, -1));
        Check.due("no such inn", -2, x.told(256, 1, 2, 0));
    }

    private static void refused() {
        NineInMind x = Check.withLore("things 4;inn;");
        Check.row(x, 0, 0, 1, 4);
        Check.row(x, 1, 0, -1);
        Check.row(x, 2, 0, 1L << 32);
        for (int row = 0; row < 3; row++) {
            Check.due("fresh", -3, x.fresh(row, 3, 2));
            Check.due("kept", -3, x.kept(row, 3, 1));
            Check.due("less", -3, x.less(row));
            Check.due("enough", -3, x.enough(row, 3, 1));
            Check.due("through", -3, x.through(row, 3, 0));
            Check.due("sizeFor", -3, x.sizeFor(row, 0));
        }
        Check.row(x, 0, 0, 1);
        for (int size : new int[] {0, 10, -1, Integer.MIN_VALUE}) {
            Check.due("fresh size", -3, x.fresh(0, size, 0));
            Check.due("kept size", -3, x.kept(0, size, 0));
            Check.due("through size", -3, x.through(0, size, 0));
        }
        Check.due("fresh law", -2, x.fresh(3, 0, 3));
        Check.due("fresh law", -2, x.fresh(3, 0, -1));
        Check.due("kept law", -2, x.kept(3, 0, 2));
        Check.due("enough law", -2, x.enough(3, 0, 3));
        for (int row : new int[] {-1, 4}) {
            Check.due("fresh row", -2, x.fresh(row, 0, 0));
            Check.due("kept row", -2, x.kept(row, 0, 0));
            Check.due("less row", -2, x.less(row));
            Check.due("enough row", -2, x.enough(row, 0, 0));
            Check.due("through row", -2, x.through(row, 0, 0));
            Check.due("sizeFor row", -2, x.sizeFor(row, 0));
        }
        Check.due("fresh missing", -6, x.fresh(3, 0, 0));
        Check.due("kept missing", -6, x.kept(3, 0, 0));
        Check.due("less missing", -6, x.less(3));
        Check.due("enough missing", -6, x.enough(3, 0, 0));
        Check.due("through missing", -6, x.through(3, 0, 0));
        Check.due("through missing, no inn", -2, x.through(3, 0, 1));
        Check.due("sizeFor missing", -6, x.sizeFor(3, 0));
        Check.due("sizeFor missing, no inn", -2, x.sizeFor(3, 1));
    }
}
