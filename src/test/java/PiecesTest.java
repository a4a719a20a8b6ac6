/** Promises 39 to 42: pieces, the shortest row that joins them, unfit ones, gaps. */
public final class PiecesTest {
    public static void main(String[] args) {
        piece();
        joined();
        unfit();
        gaps();
        Check.end("PiecesTest");
    }

    private static NineInMind withPieces(long[]... pieces) {
        return Check.withPieces("things 10;", pieces);
    }

    private static long[] row(long... things) {
        return things;
    }

    private static void due(NineInMind x, int... row) {
        Check.due("joined(-1)", row.length, x.joined(-1));
        for (int k = 0; k < row.length; k++) {
            Check.due("joined(" + k + ")", row[k], x.joined(k));
        }
        Check.due("joined behind it", -1, x.joined(row.length));
    }

    /** Promise 39. */
    private static void piece() {
        NineInMind x = Check.withLore("things 10;");
        Check.due("missing", -6, x.piece(0));
        Check.due("no such row", -2, x.piece(4));
        Check.due("no such row", -2, x.piece(-1));
        Check.row(x, 0);
        Check.due("nothing", -3, x.piece(0));
        Check.row(x, 0, 0, 1, 2, 3, 4, 5, 6, 7, 8);
        Check.due("nine", -3, x.piece(0));
        Check.row(x, 0, 0, 10);
        Check.due("no thing", -3, x.piece(0));
        Check.row(x, 0, 0, -1);
        Check.due("no thing", -3, x.piece(0));
        Check.row(x, 0, 0, 1, 2, 3, 4, 5, 6, 7);
        for (int n = 1; n <= 6; n++) {
            Check.due("piece", n, x.piece(0));
        }
        Check.due("a 7th", -4, x.piece(0));
        Check.row(x, 0);
        Check.due("a 7th of nothing", -4, x.piece(0));
        Check.due("count(4)", 6, x.count(4));
        // a piece stays as it was put
        due(x, 0, 1, 2, 3, 4, 5, 6, 7);
    }

    /** Promise 40. */
    private static void joined() {
        due(withPieces());
        due(withPieces(row(4)), 4);
        due(withPieces(row(4), row(4), row(4)), 4);
        due(withPieces(row(4), row(2)), 2, 4);
        due(withPieces(row(4, 2), row(2)), 4, 2);
        due(withPieces(row(3, 4, 5), row(5, 1), row(1, 3)), 1, 3, 4, 5, 1);
        due(withPieces(row(1, 1), row(1, 1, 1), row(1)), 1, 1, 1);
        // of like long ones the first by things
        due(withPieces(row(5, 6), row(6, 5)), 5, 6, 5);
        due(withPieces(row(0, 1), row(1, 0)), 0, 1, 0);
        due(withPieces(row(7, 8), row(3, 2), row(0, 9)), 0, 9, 3, 2, 7, 8);
        due(withPieces(row(0, 1, 0, 1), row(1, 0, 1, 0)), 0, 1, 0, 1, 0);
        due(withPieces(row(1, 2, 3), row(2, 3, 1), row(3, 1, 2)), 1, 2, 3, 1, 2);
        due(withPieces(row(9, 8, 7, 6, 5, 4, 3, 2), row(3, 2, 1), row(8, 7), row(2, 1, 0, 9)),
                9, 8, 7, 6, 5, 4, 3, 2, 1, 0, 9);
        NineInMind x = withPieces(row(0, 0, 0, 0, 0, 0, 0, 0), row(1, 1, 1, 1, 1, 1, 1, 1), row(2, 2, 2, 2, 2, 2, 2, 2),
                row(3, 3, 3, 3, 3, 3, 3, 3), row(4, 4, 4, 4, 4, 4, 4, 4), row(5, 5, 5, 5, 5, 5, 5, 5));
        Check.due("the longest", 48, x.joined(-1));
        Check.due("its last", 5, x.joined(47));
        Check.due("behind it", -1, x.joined(48));
        Check.due("far behind", -1, x.joined(Integer.MAX_VALUE));
        Check.due("joined(-2)", -3, x.joined(-2));
        Check.due("joined(min)", -3, x.joined(Integer.MIN_VALUE));
    }

    /** Promise 41. */
    private static void unfit() {
        Check.due("none", -1, withPieces().unfit());
        Check.due("in order", -1, withPieces(row(0, 1, 2), row(0, 2), row(1, 2, 5)).unfit());
        Check.due("turned", 1, withPieces(row(0, 1), row(1, 0)).unfit());
        Check.due("one in common", -1, withPieces(row(0, 1), row(1, 2), row(2, 0)).unfit());
        Check.due("the first two", 13, withPieces(row(5), row(0, 1), row(2, 3), row(1, 0), row(3, 2)).unfit());
        // where each stands first
        Check.due("by the first place", -1, withPieces(row(0, 1, 0), row(0, 1)).unfit());
        Check.due("by the first place", 1, withPieces(row(0, 1, 0), row(1, 0)).unfit());
        Check.due("far apart", 45, withPieces(row(5), row(5), row(5), row(5), row(0, 9, 8, 7, 1), row(1, 2, 3, 0)).unfit());
    }

    /** Promise 42. */
    private static void gaps() {
        Check.due("all", 0x3ff, withPieces().gaps());
        Check.due("some", 0x3ff & ~0x25, withPieces(row(0, 5, 0), row(2)).gaps());
        Check.due("none", 0, withPieces(row(0, 1, 2, 3, 4, 5, 6, 7), row(8, 9)).gaps());
    }
}
