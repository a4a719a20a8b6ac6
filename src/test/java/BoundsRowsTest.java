/** Promises 39 to 48 and their terms: each sentence that names a boundary has a test of its own. */
public final class BoundsRowsTest {
    private static final int[] FAR = {-1, Integer.MIN_VALUE, Integer.MAX_VALUE, 32};

    public static void main(String[] args) {
        piecesUpToSix();
        piecesOfOneToEight();
        pieceRefused();
        joinedOfNone();
        joinedPlaces();
        joinedOverlaps();
        joinedOfLikeOnes();
        unfit();
        gaps();
        numbersUpToForty();
        numbersInPlace();
        numbersRefused();
        writeWrapsAround();
        writeRefused();
        copyPlaces();
        copyRefused();
        imagesRefused();
        imagesOfNone();
        imagesAsTheyWere();
        imagesAreTwo();
        count();
        lastCall();
        Check.end("BoundsRowsTest");
    }

    private static long[] row(long... things) {
        return things;
    }

    private static void joined(String sentence, NineInMind x, int... row) {
        Check.promise(40, sentence + ", how many", row.length, x.joined(NineInMind.NONE));
        for (int k = 0; k < row.length; k++) {
            Check.promise(40, sentence + ", THING " + k, row[k], x.joined(k));
        }
        Check.promise(40, sentence + ", NONE: not so many", -1, x.joined(row.length));
    }

    // ---- promise 39

    private static void piecesUpToSix() {
        NineInMind x = Check.withLore("things 16;");
        for (int n = 1; n <= 6; n++) {
            Check.row(x, 0, n);
            Check.promise(39, "how many there are then", n, x.piece(0));
        }
        Check.promise(39, "-4: there are 6", -4, x.piece(0));
        Check.promise(39, "-4, and there are still 6", 6, x.count(4));
        joined("all six", x, 1, 2, 3, 4, 5, 6);
        Check.row(x, 0);
        Check.promise(39, "-4 ahead of -3: no numbers", -4, x.piece(0));
        Check.row(x, 0, 99);
        Check.promise(39, "-4 ahead of -3: no THING", -4, x.piece(0));
        Check.promise(39, "-6 ahead of -4", -6, x.piece(1));
        Check.promise(39, "-2 ahead of -4", -2, x.piece(4));
        Check.tell(x, "things 4;");
        Check.row(x, 0, 3);
        Check.promise(39, "with a new LORE it is the first", 1, x.piece(0));
    }

    private static void piecesOfOneToEight() {
        NineInMind x = Check.withLore("things 16;");
        Check.row(x, 0);
        Check.promise(39, "-3: it has no numbers", -3, x.piece(0));
        Check.row(x, 0, 0, 1, 2, 3, 4, 5, 6, 7, 8);
        Check.promise(39, "-3: it has 9 numbers", -3, x.piece(0));
        x.numbers(0, 0, 40);
        Check.promise(39, "-3: it has 40 numbers", -3, x.piece(0));
        Check.promise(39, "-3: there are none", 0, x.count(4));
        Check.row(x, 0, 15);
        Check.promise(39, "it has 1 number", 1, x.piece(0));
        Check.row(x, 0, 0, 1, 2, 3, 4, 5, 6, 7);
        Check.promise(39, "it has 8 numbers", 2, x.piece(0));
        Check.row(x, 0, 9, 9);
        joined("a PIECE is what the ROW was", x, 0, 1, 2, 3, 4, 5, 6, 7, 15);
    }

    private static void pieceRefused() {
        NineInMind x = Check.withLore("things 6;");
        for (int far : FAR) {
            Check.promise(39, "-2: no ROW " + far, -2, x.piece(far));
        }
        Check.promise(39, "-2: the ROW behind the last", -2, x.piece(4));
        Check.promise(39, "-6: a ROW that is MISSING", -6, x.piece(3));
        for (long no : new long[] {6, 16, -1, 1L << 32, Long.MIN_VALUE, Long.MAX_VALUE}) {
            Check.row(x, 0, no);
            Check.promise(39, "-3: no THING " + no, -3, x.piece(0));
            Check.row(x, 0, 0, 1, 2, no);
            Check.promise(39, "-3: the last is no THING, " + no, -3, x.piece(0));
        }
        Check.promise(39, "-3: there are none", 0, x.count(4));
        x = new NineInMind();
        x.numbers(0, 0, 1);
        Check.promise(39, "-3: without THINGS", -3, x.piece(0));
    }

    // ---- promise 40

    private static void joinedOfNone() {
        NineInMind x = Check.withLore("things 6;");
        joined("without PIECES", x);
        for (int k : new int[] {-2, -3, Integer.MIN_VALUE}) {
            Check.promise(40, "-3: k is below NONE, " + k, -3, x.joined(k));
        }
        Check.promise(40, "-3 without LORE", -3, new NineInMind().joined(-2));
    }

    private static void joinedPlaces() {
        long[][] six = new long[6][8];
        for (int i = 0; i < 6; i++) {
            for (int k = 0; k < 8; k++) {
                six[i][k] = 15 - i;
            }
        }
        NineInMind x = Check.withPieces("things 16;", six);
        int[] due = new int[48];
        for (int k = 0; k < 48; k++) {
            due[k] = 10 + k / 8;
        }
        joined("the longest there can be", x, due);
        Check.promise(40, "NONE: not nearly so many", -1, x.joined(Integer.MAX_VALUE));
        Check.promise(40, "-3: k is below NONE", -3, x.joined(-2));
    }

    private static void joinedOverlaps() {
        joined("one PIECE", Check.withPieces("things 6;", row(5, 0, 5)), 5, 0, 5);
        joined("one twice", Check.withPieces("things 6;", row(1, 2), row(1, 2)), 1, 2);
        joined("one within another one", Check.withPieces("things 6;", row(1), row(0, 1, 2), row(1, 2)), 0, 1, 2);
        joined("within the first one", Check.withPieces("things 6;", row(0, 1, 2), row(1)), 0, 1, 2);
        joined("within at the end", Check.withPieces("things 6;", row(0, 1, 2, 3), row(3), row(2, 3, 4)), 0, 1, 2, 3, 4);
        joined("within at the beginning", Check.withPieces("things 6;", row(0, 1, 2), row(0), row(5, 0, 1)), 5, 0, 1, 2);
        joined("end and beginning", Check.withPieces("things 6;", row(2, 3, 4), row(0, 1, 2)), 0, 1, 2, 3, 4);
        joined("as much of it as can be", Check.withPieces("things 6;", row(1, 1, 1, 0), row(2, 1, 1, 1)), 2, 1, 1, 1, 0);
        joined("one behind the other, not apart", Check.withPieces("things 6;", row(0, 2), row(0, 1, 2)), 0, 1, 2, 0, 2);
        joined("a ring", Check.withPieces("things 6;", row(0, 1), row(1, 2), row(2, 0)), 0, 1, 2, 0);
        joined("not the longest overlap first", Check.withPieces("things 6;", row(0, 1, 0, 2), row(1, 0, 2, 3), row(2, 3, 0, 1)),
                0, 1, 0, 2, 3, 0, 1);
    }

    private static void joinedOfLikeOnes() {
        joined("of like ones the first by THINGS", Check.withPieces("things 6;", row(5), row(0), row(3)), 0, 3, 5);
        joined("of like ones the first by THINGS", Check.withPieces("things 6;", row(1, 0), row(0, 1)), 0, 1, 0);
        joined("the shortest ahead of the first", Check.withPieces("things 6;", row(0, 3), row(5, 0)), 5, 0, 3);
    }

    // ---- promises 41 and 42

    private static void unfit() {
        Check.promise(41, "NONE: without PIECES", -1, Check.withPieces("things 9;").unfit());
        Check.promise(41, "NONE: one PIECE", -1, Check.withPieces("things 9;", row(0, 1, 0)).unfit());
        Check.promise(41, "NONE: nothing that both have", -1, Check.withPieces("things 9;", row(0, 1), row(2, 3)).unfit());
        Check.promise(41, "NONE: one that both have", -1, Check.withPieces("things 9;", row(0, 1), row(2, 0)).unfit());
        Check.promise(41, "NONE: two in like order", -1, Check.withPieces("things 9;", row(0, 1), row(0, 2, 1)).unfit());
        Check.promise(41, "NONE: one of them hasn't THING 0", -1, Check.withPieces("things 9;", row(1), row(0, 1)).unfit());
        Check.promise(41, "two in unlike order", 1, Check.withPieces("things 9;", row(0, 1), row(1, 2, 0)).unfit());
        Check.promise(41, "NONE: by where each stands first", -1, Check.withPieces("things 9;", row(0, 1, 0), row(0, 1)).unfit());
        Check.promise(41, "by where each stands first", 1, Check.withPieces("things 9;", row(0, 1, 0), row(1, 0, 1)).unfit());
        Check.promise(41, "NONE: the same twice", -1, Check.withPieces("things 9;", row(3, 1, 2), row(3, 1, 2)).unfit());
        Check.promise(41, "the last two", 45,
                Check.withPieces("things 9;", row(0), row(0), row(0), row(0), row(1, 0), row(0, 1)).unfit());
        Check.promise(41, "the first and the last", 5,
                Check.withPieces("things 9;", row(7, 8), row(0), row(0), row(0), row(0), row(8, 7)).unfit());
        Check.promise(41, "the first two: by the one, then the other one", 3,
                Check.withPieces("things 9;", row(7, 8), row(0, 1), row(1, 0), row(8, 7), row(8, 7)).unfit());
        Check.promise(41, "eight each, the last two turned", 1, Check.withPieces("things 16;", row(0, 1, 2, 3, 4, 5, 14, 15),
                row(0, 1, 2, 3, 4, 5, 15, 14)).unfit());
    }

    private static void gaps() {
        Check.promise(42, "without LORE there are no THINGS", 0, new NineInMind().gaps());
        Check.promise(42, "without PIECES all THINGS", 0xffff, Check.withPieces("things 16;").gaps());
        Check.promise(42, "the first and the last are had", 0x7ffe, Check.withPieces("things 16;", row(15, 0)).gaps());
        Check.promise(42, "the first isn't had", 5, Check.withPieces("things 3;", row(1)).gaps());
        Check.promise(42, "none", 0, Check.withPieces("things 3;", row(0, 2), row(1, 1)).gaps());
    }

    // ---- promise 43

    private static void numbersUpToForty() {
        NineInMind x = new NineInMind();
        for (int row = 0; row < 4; row++) {
            Check.promise(43, "ROW " + row + " is MISSING at first", -6, x.write(row, 0, 1));
            Check.promise(43, "n is 0", 0, x.numbers(row, row, 0));
            Check.promise(43, "n is 0: it is there, and has none", -7, x.write(row, 0, 1));
            Check.promise(43, "n is 1", 0, x.numbers(row, row, 1));
            Check.promise(43, "n is 1: the first", 1, x.write(row, 0, 1));
            Check.promise(43, "n is 1: no other", -7, x.write(row, 1, 1));
            Check.promise(43, "n is 40", 0, x.numbers(row, row, 40));
            Check.promise(43, "n is 40: the last", 1, x.write(row, 39, 1));
            Check.promise(43, "n is 40: no more", -7, x.write(row, 40, 1));
        }
    }

    private static void numbersInPlace() {
        NineInMind x = Check.withLore("things 16;");
        Check.row(x, 0, 3, 4, 5);
        Check.promise(43, "in place of another one", 0, x.numbers(0, 0, 3));
        Check.promise(43, "all 0", 1, x.kept(0, 9, 0));
        Check.promise(43, "of its own sort", -128, x.write(0, 0, 128));
        Check.row(x, 0, 3, 4, 5);
        x.numbers(0, 0, 1);
        x.numbers(0, 0, 3);
        Check.promise(43, "all 0, though it was shorter in between", 1, x.kept(0, 9, 0));
        Check.row(x, 1, 7);
        x.numbers(0, 3, 40);
        Check.promise(43, "the other ROWS stay", 1 << 7, x.kept(1, 9, 0));
    }

    private static void numbersRefused() {
        NineInMind x = Check.withLore("things 16;");
        for (int far : FAR) {
            Check.promise(43, "-2: no ROW " + far, -2, x.numbers(far, 0, 1));
            Check.promise(43, "-2: no sort " + far, -2, x.numbers(0, far, 1));
            Check.promise(43, "-2 ahead of -3: no ROW " + far, -2, x.numbers(far, 0, 41));
            Check.promise(43, "-2 ahead of -3: no sort " + far, -2, x.numbers(0, far, -1));
        }
        Check.promise(43, "-2: the ROW behind the last", -2, x.numbers(4, 0, 1));
        Check.promise(43, "-2: the sort behind the last", -2, x.numbers(0, 4, 1));
        for (int n : new int[] {-1, 41, Integer.MIN_VALUE, Integer.MAX_VALUE}) {
            Check.promise(43, "-3: n is below 0 or above 40, " + n, -3, x.numbers(0, 0, n));
            Check.promise(43, "-3, and the ROW stays MISSING", -6, x.write(0, 0, 0));
        }
        Check.row(x, 0, 5, 7);
        for (int n : new int[] {-1, 41, Integer.MIN_VALUE, Integer.MAX_VALUE}) {
            Check.promise(43, "-3: n is below 0 or above 40, " + n, -3, x.numbers(0, 0, n));
            Check.promise(43, "-3, and the ROW stays", 1 << 5 | 1 << 7, x.kept(0, 9, 0));
        }
        Check.promise(43, "-2: no sort", -2, x.numbers(0, 4, 1));
        Check.promise(43, "-2, and the ROW stays", 1 << 5 | 1 << 7, x.kept(0, 9, 0));
        Check.promise(43, "-2, and its sort stays", 1L << 40, x.write(0, 0, 1L << 40));
    }

    // ---- promise 44

    private static void writeWrapsAround() {
        NineInMind x = new NineInMind();
        long[] least = {-128, -32768, Integer.MIN_VALUE, Long.MIN_VALUE};
        for (int sort = 0; sort < 4; sort++) {
            x.numbers(0, sort, 1);
            long most = -(least[sort] + 1);
            Check.promise(44, "the greatest of sort " + sort, most, x.write(0, 0, most));
            Check.promise(44, "one above the greatest of sort " + sort, least[sort], x.write(0, 0, most + 1));
            Check.promise(44, "the least of sort " + sort, least[sort], x.write(0, 0, least[sort]));
            Check.promise(44, "one below the least of sort " + sort, most, x.write(0, 0, least[sort] - 1));
            Check.promise(44, "-1 in sort " + sort, -1, x.write(0, 0, -1));
            Check.promise(44, "0 in sort " + sort, 0, x.write(0, 0, 0));
        }
        long v = 0x8877665544332211L;
        long[] cut = {0x11, 0x2211, 0x44332211, v};
        for (int sort = 0; sort < 4; sort++) {
            x.numbers(0, sort, 1);
            Check.promise(44, "cut to sort " + sort, cut[sort], x.write(0, 0, v));
            Check.promise(44, "cut to sort " + sort, sort == 3 ? 1L << 32 : 0, x.write(0, 0, 1L << 32));
        }
        x = Check.withLore("things 16;");
        for (int sort = 0; sort < 3; sort++) {
            x.numbers(0, sort, 1);
            x.write(0, 0, (5L << 32) + 15);
            Check.promise(44, "as it is there: cut to sort " + sort, 1 << 15, x.kept(0, 1, 0));
        }
        x.numbers(0, 3, 1);
        x.write(0, 0, (5L << 32) + 15);
        Check.promise(44, "as it is there: 64 bits", -3, x.kept(0, 1, 0));
    }

    private static void writeRefused() {
        NineInMind x = Check.withLore("things 16;");
        Check.row(x, 0, 5, 7);
        for (int far : FAR) {
            Check.promise(44, "-2: no ROW " + far, -2, x.write(far, 0, 9));
            Check.promise(44, "-7: no number " + far, -7, x.write(0, far, 9));
        }
        Check.promise(44, "-2: the ROW behind the last", -2, x.write(4, 0, 9));
        Check.promise(44, "-7: the number behind the last", -7, x.write(0, 2, 9));
        Check.promise(44, "-6: a ROW that is MISSING", -6, x.write(3, 0, 9));
        Check.promise(44, "-6 ahead of -7", -6, x.write(3, 99, 9));
        Check.promise(44, "-2 ahead of -7", -2, x.write(4, 99, 9));
        Check.promise(44, "the ROW stays", 1 << 5 | 1 << 7, x.kept(0, 9, 0));
    }

    // ---- promise 45

    private static void copyPlaces() {
        NineInMind x = Check.withLore("things 16;");
        x.comes(9);
        x.numbers(0, 0, 0);
        Check.promise(45, "nothing into a ROW of none", 0, x.copy(0, 0));
        Check.row(x, 0, 4);
        Check.promise(45, "nothing into a ROW of one", 0, x.copy(0, 0));
        Check.promise(45, "which stays as it is", 1 << 4, x.kept(0, 1, 0));
        Check.hear(x, 0, 0, 1, 2, 3, 4, 5, 6, 7, 15);
        x.numbers(1, 0, 9);
        Check.promise(45, "just so many places", 9, x.copy(0, 1));
        Check.promise(45, "the latest first: the last is 0", 1, x.kept(1, 1, 0));
        Check.promise(45, "all of it", 0x80ff, x.kept(1, 9, 0));
        Check.row(x, 2, 9, 9, 9, 9, 9, 9, 9, 9);
        Check.promise(45, "-7: one place less", -7, x.copy(0, 2));
        Check.promise(45, "-7: nothing comes", 1 << 9, x.kept(2, 9, 0));
        Check.row(x, 2, 9, 9, 9, 9, 9, 9, 9, 9, 9, 9);
        Check.promise(45, "one place more", 9, x.copy(0, 2));
        Check.promise(45, "the place behind stays", 1 << 9, x.kept(2, 1, 0));
        Check.promise(45, "from its first place on", -1, x.farBack(2, 9));
        Check.promise(45, "his MIND stays", 0x1f76543210L, Check.mind(x, 0));
        x.numbers(3, 0, 40);
        Check.promise(45, "far more places", 9, x.copy(0, 3));
    }

    private static void copyRefused() {
        NineInMind x = Check.withLore("things 4;");
        x.comes(2);
        Check.hear(x, 0, 1, 2);
        Check.row(x, 0, 3);
        for (int far : FAR) {
            Check.promise(45, "-2: no COURIER " + far, -2, x.copy(far, 0));
            Check.promise(45, "-2: no ROW " + far, -2, x.copy(0, far));
        }
        Check.promise(45, "-2: the COURIER behind the last", -2, x.copy(1, 0));
        Check.promise(45, "-2: the ROW behind the last", -2, x.copy(0, 4));
        Check.promise(45, "-6: a ROW that is MISSING", -6, x.copy(0, 3));
        Check.promise(45, "-2 ahead of -6", -2, x.copy(1, 3));
        Check.promise(45, "-2 ahead of -7", -2, x.copy(1, 0));
        Check.promise(45, "-7: it has not so many places", -7, x.copy(0, 0));
        x.numbers(1, 0, 0);
        Check.promise(45, "-7: it has none", -7, x.copy(0, 1));
        Check.promise(45, "the ROW stays", 8, x.kept(0, 9, 0));
    }

    // ---- promises 46 and 47

    private static void imagesRefused() {
        NineInMind x = Check.withLore("things 4;");
        for (int i : new int[] {-1, 2, 3, Integer.MIN_VALUE, Integer.MAX_VALUE}) {
            Check.promise(46, "-2: no IMAGE " + i, -2, x.image(i));
            Check.promise(47, "-2: no IMAGE " + i, -2, x.restore(i));
        }
        Check.promise(47, "-5: none was made, 0", -5, x.restore(0));
        Check.promise(47, "-5: none was made, 1", -5, x.restore(1));
        Check.promise(46, "an IMAGE is made", 0, x.image(1));
        Check.promise(47, "-5: the other one was made", -5, x.restore(0));
        Check.promise(47, "it was made", 0, x.restore(1));
        Check.promise(47, "THE LORE stays", 4, x.count(0));
        x = Check.withLore("things 4;");
        Check.promise(46, "an IMAGE is made", 0, x.image(0));
        Check.promise(47, "-5: the other one was made", -5, x.restore(1));
    }

    private static void imagesOfNone() {
        NineInMind x = new NineInMind();
        Check.promise(46, "an IMAGE of no LORE", 0, x.image(0));
        Check.tell(x, "things 4;mind 3;inn;");
        x.comes(1);
        Check.row(x, 0, 1);
        x.piece(0);
        Check.promise(47, "as it was: no LORE", 0, x.restore(0));
        int[] due = {0, 9, 0, 0, 0, 0, 0};
        for (int what = 0; what < due.length; what++) {
            Check.promise(47, "as it was: count(" + what + ")", due[what], x.count(what));
        }
        Check.promise(47, "ROWS are in no IMAGE", 1, x.write(0, 0, 1));
    }

    private static NineInMind full() {
        NineInMind x = Check.withLore("things 16;mind 4;worth 15 9;rhyme 0 15;secret 3 4;inn 7;inn 8 9;");
        for (int c = 0; c < 6; c++) {
            x.comes(1 + c % 4);
            Check.hear(x, c, c, 3, 4);
        }
        x.walks(5, 1);
        for (int i = 0; i < 6; i++) {
            Check.row(x, 0, i, i + 1);
            x.piece(0);
        }
        return x;
    }

    private static void imagesAsTheyWere() {
        NineInMind x = full();
        x.image(1);
        for (int c = 0; c < 6; c++) {
            Check.hear(x, c, 9, 10, 11, 12);
            x.walks(c, c % 2);
        }
        x.restore(1);
        Check.promise(47, "as it was: a LOST one was LOST where he was", 0, x.lost(0, 3));
        Check.promise(47, "as it was: what he has LOST since he never did", -1, x.lost(0, 9));
        Check.promise(47, "as it was: how many times he LOST one", 2, x.of(0, 5));
        Check.promise(47, "as it was: his INN", 1, x.of(5, 1));
        Check.promise(47, "as it was: his MIND", 0x198, Check.mind(x, 5));
        Check.promise(47, "as it was: his SIZE", 4, x.of(3, 0));
        Check.tell(x, "things 2;");
        x.comes(9);
        x.restore(1);
        int[] due = {16, 4, 2, 6, 6, 7, 0};
        for (int what = 0; what < due.length; what++) {
            Check.promise(47, "as it was: count(" + what + ")", due[what], x.count(what));
        }
        Check.promise(47, "as it was: worth", 9, x.thing(15, 0));
        Check.promise(47, "as it was: rhyme", 1 << 15, x.thing(0, 1));
        Check.promise(47, "as it was: secret", 1 << 4, x.thing(3, 2));
        Check.promise(47, "as it was: NEWS", 9, x.news(1, 1));
        Check.promise(47, "as it was: PIECES", 7, x.joined(-1));
        Check.promise(47, "-4: there are 6", -4, x.comes(1));
        Check.promise(47, "-4: there are 6", -4, x.piece(0));
        joined("PIECES as they were", x, 0, 1, 2, 3, 4, 5, 6);
        Check.tell(x, "things 16;");
        Check.row(x, 0, 9, 9, 8, 8);
        for (int i = 0; i < 6; i++) {
            x.piece(0);
        }
        x.restore(1);
        joined("PIECES as they were, in place of longer ones", x, 0, 1, 2, 3, 4, 5, 6);
        Check.feed(x, "things 3;           ");
        x.restore(1);
        Check.promise(47, "THE TAPE is in no IMAGE", 20, x.count(6));
        x.lore(1);
        x.restore(1);
        Check.promise(47, "the FAULT is in no IMAGE", 2, x.fault(0));
    }

    private static void imagesAreTwo() {
        NineInMind x = Check.withLore("things 4;");
        x.image(0);
        Check.tell(x, "things 5;");
        x.image(1);
        Check.tell(x, "things 6;");
        x.restore(0);
        Check.promise(47, "IMAGE 0", 4, x.count(0));
        x.restore(1);
        Check.promise(47, "IMAGE 1", 5, x.count(0));
        x.image(0);
        x.lore(0);
        x.restore(0);
        Check.promise(46, "an IMAGE in place of another one", 5, x.count(0));
        x.comes(2);
        x.hears(0, 3);
        x.restore(0);
        Check.promise(47, "an IMAGE stays as it was made", 0, x.count(3));
        x.restore(0);
        Check.promise(47, "again", 5, x.count(0));
    }

    // ---- promise 48

    private static void count() {
        NineInMind x = full();
        x.feed(0, 0, 0, 0, 0);
        int[] due = {16, 4, 2, 6, 6, 7, 20};
        for (int what = 0; what < due.length; what++) {
            Check.promise(48, "count(" + what + ")", due[what], x.count(what));
        }
        for (int what : new int[] {-1, 7, 8, Integer.MIN_VALUE, Integer.MAX_VALUE}) {
            Check.promise(48, "NONE for others, " + what, -1, x.count(what));
        }
    }

    /** An object is used for at most 512 calls: the last of these is still as promised. */
    private static void lastCall() {
        NineInMind x = new NineInMind();
        x.feed(0x7468696e, 0x67732034, 0x3b202020, 0x20202020, 0x20202020);
        x.lore(20);
        x.comes(2);
        for (int call = 4; call <= 511; call++) {
            Check.promise(10, "call " + call + " of 512", call < 6 ? -1 : (call - 2) % 4, x.hears(0, call % 4));
        }
        Check.promise(8, "call 512 of 512", 506, x.of(0, 5));
    }
}
