/** Promises 43 to 48: rows of numbers, images, count. */
public final class NumbersTest {
    public static void main(String[] args) {
        numbers();
        write();
        copy();
        images();
        count();
        Check.end("NumbersTest");
    }

    /** Promise 43. */
    private static void numbers() {
        NineInMind x = new NineInMind();
        Check.due("row -1", -2, x.numbers(-1, 0, 41));
        Check.due("row 4", -2, x.numbers(4, 0, 1));
        Check.due("sort -1", -2, x.numbers(0, -1, 41));
        Check.due("sort 4", -2, x.numbers(0, 4, 1));
        Check.due("n -1", -3, x.numbers(0, 0, -1));
        Check.due("n 41", -3, x.numbers(0, 0, 41));
        Check.due("still missing", -6, x.write(0, 0, 1));
        Check.due("n 0", 0, x.numbers(0, 0, 0));
        Check.due("no number", -7, x.write(0, 0, 1));
        Check.due("n 40", 0, x.numbers(3, 3, 40));
        Check.due("the last", 5, x.write(3, 39, 5));
        Check.due("refused", -3, x.numbers(3, 0, 41));
        Check.due("refused", -2, x.numbers(3, 4, 1));
        Check.due("it stays", 1L << 40, x.write(3, 39, 1L << 40));
        // in place of another one all are 0
        x = Check.withLore("things 4;");
        Check.row(x, 0, 3, 3, 3);
        Check.due("in place", 0, x.numbers(0, 1, 2));
        Check.due("all are 0", 1, x.kept(0, 9, 0));
        Check.due("two alone", -7, x.write(0, 2, 0));
    }

    /** Promise 44. */
    private static void write() {
        NineInMind x = new NineInMind();
        long v = 0x123456789abcdef0L;
        long[] cut = {(byte) 0xf0, (short) 0xdef0, 0x9abcdef0, v};
        long[] most = {127, 32767, Integer.MAX_VALUE, Long.MAX_VALUE};
        for (int sort = 0; sort < 4; sort++) {
            x.numbers(sort, sort, 2);
            Check.due("cut to sort " + sort, cut[sort], x.write(sort, 1, v));
            Check.due("-1 in sort " + sort, -1, x.write(sort, 0, -1));
            Check.due("the greatest of sort " + sort, most[sort], x.write(sort, 0, most[sort]));
            Check.due("one more in sort " + sort, -most[sort] - 1, x.write(sort, 0, most[sort] + 1));
            Check.due("no number 2", -7, x.write(sort, 2, 0));
            Check.due("no number -1", -7, x.write(sort, -1, 0));
        }
        Check.due("no row", -2, x.write(4, 0, 0));
        Check.due("no row", -2, x.write(-1, 0, 0));
        Check.due("missing", -6, new NineInMind().write(2, 9, 0));
        // what is cut is what is read
        x = Check.withLore("things 4;");
        x.numbers(0, 0, 1);
        x.write(0, 0, 256 + 3);
        Check.due("kept of 259 in 8 bits", 8, x.kept(0, 1, 0));
    }

    /** Promise 45. */
    private static void copy() {
        NineInMind x = Check.withLore("things 16;");
        x.comes(4);
        Check.hear(x, 0, 7, 15, 9);
        x.numbers(0, 0, 4);
        x.write(0, 3, 1);
        Check.due("copy(0, 0)", 3, x.copy(0, 0));
        x.numbers(1, 0, 2);
        x.write(1, 0, 5);
        x.write(1, 1, 5);
        Check.due("too short", -7, x.copy(0, 1));
        Check.due("nothing came", 1 << 5, x.kept(1, 9, 0));
        x.numbers(1, 3, 3);
        Check.due("just long enough", 3, x.copy(0, 1));
        Check.due("the last is the first heard", 1 << 7, x.kept(1, 1, 0));
        Check.due("what is behind stays", 1 << 1, x.kept(0, 1, 0));
        Check.due("all", 1 << 7 | 1 << 15 | 1 << 9 | 1 << 1, x.kept(0, 9, 0));
        Check.due("missing", -6, x.copy(0, 2));
        Check.due("no row", -2, x.copy(0, 4));
        Check.due("no courier", -2, x.copy(1, 2));
        x.comes(1);
        x.numbers(2, 0, 0);
        Check.due("nothing into nothing", 0, x.copy(1, 2));
    }

    /** Promises 46 and 47. */
    private static void images() {
        NineInMind x = new NineInMind();
        Check.due("image(-1)", -2, x.image(-1));
        Check.due("image(2)", -2, x.image(2));
        Check.due("restore(-1)", -2, x.restore(-1));
        Check.due("restore(2)", -2, x.restore(2));
        Check.due("restore(0)", -5, x.restore(0));
        Check.due("image(0) of nothing", 0, x.image(0));
        Check.tell(x, "things 8;mind 3;worth 1 8;rhyme 1 2;secret 3 4;inn;inn 5 6;");
        x.comes(2);
        Check.hear(x, 0, 0, 1, 3);
        x.walks(0, 1);
        Check.row(x, 0, 4, 2);
        x.piece(0);
        Check.due("image(1)", 0, x.image(1));
        Check.tell(x, "things 3;inn 1;inn 2;inn 0;");
        x.comes(9);
        x.comes(9);
        Check.hear(x, 0, 2, 1);
        Check.row(x, 0, 1, 1);
        x.piece(0);
        x.piece(0);
        Check.feed(x, "things 2;");
        Check.due("restore(1)", 0, x.restore(1));
        int[] counts = {8, 3, 2, 1, 1, 7, 20};
        for (int what = 0; what < counts.length; what++) {
            Check.due("count(" + what + ") as it was", counts[what], x.count(what));
        }
        Check.due("thing(1, 0)", 8, x.thing(1, 0));
        Check.due("thing(1, 1)", 4, x.thing(1, 1));
        Check.due("thing(4, 2)", 8, x.thing(4, 2));
        Check.due("news(1, 1)", 6, x.news(1, 1));
        Check.due("mind", 0x165, Check.mind(x, 0));
        Check.due("size", 2, x.of(0, 0));
        Check.due("inn", 1, x.of(0, 1));
        Check.due("losses", 3, x.of(0, 5));
        Check.due("lost(0, 0)", 0, x.lost(0, 0));
        Check.due("lost(0, 1)", 1, x.lost(0, 1));
        Check.due("pieces", 4, x.joined(0));
        Check.due("rows are no part of it", 2, x.kept(0, 9, 0));
        // the image stays as it was made
        Check.hear(x, 0, 7);
        x.restore(1);
        Check.due("mind again", 0x165, Check.mind(x, 0));
        x.restore(0);
        Check.due("nothing again", 0, x.count(0));
        Check.due("mind again", 9, x.count(1));
        Check.due("no courier", 0, x.count(3));
        Check.due("no piece", 0, x.count(4));
        x.restore(1);
        Check.due("and back", 8, x.count(0));
        x.image(0);
        x.lore(0);
        Check.due("in place of the one before", 0, x.restore(0));
        Check.due("count(0)", 8, x.count(0));
        // a fault is no part of it
        Check.tell(x, "things 4;#");
        x.restore(0);
        Check.due("fault(0)", 1, x.fault(0));
    }

    /** Promise 48. */
    private static void count() {
        NineInMind x = Check.withLore("things 8;mind 3;inn;inn;");
        x.comes(1);
        Check.row(x, 0, 1);
        x.piece(0);
        x.feed(0, 0, 0, 0, 0);
        int[] counts = {8, 3, 2, 1, 1, 4, 20};
        for (int what = 0; what < counts.length; what++) {
            Check.due("count(" + what + ")", counts[what], x.count(what));
        }
        Check.due("count(7)", -1, x.count(7));
        Check.due("count(-1)", -1, x.count(-1));
    }
}
