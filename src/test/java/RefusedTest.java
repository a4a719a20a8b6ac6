import java.util.function.ToLongFunction;

/** Refused calls answer by a code and change nothing; of several refusals the one counts that the call tells first. */
public final class RefusedTest {
    private static final String LORE =
            "things 6;mind 3;rhyme 0 1;rhyme 2 5;secret 3 4;worth 5 9;inn 1;inn 2 3;inn 4;";
    private static final int MIN = Integer.MIN_VALUE;
    private static final int MAX = Integer.MAX_VALUE;

    public static void main(String[] args) {
        lore();
        couriers();
        couriersByRows();
        hearings();
        men();
        roadAndQuestions();
        pieces();
        rowsAndImages();
        onFullOnes();
        onNewOnes();
        askingChangesNothing();
        Check.end("RefusedTest");
    }

    /**
     * Two COURIERS in unlike INNS, a third one near the first; ROW 0 has two THINGS, ROW 1 three numbers that are none,
     * ROW 2 none at all, ROW 3 is MISSING; a PIECE; IMAGE 0 was made, IMAGE 1 wasn't; 40 bytes are on THE TAPE.
     */
    private static NineInMind begun() {
        NineInMind x = Check.withLore(LORE);
        x.comes(3);
        x.comes(2);
        x.comes(1);
        Check.hear(x, 0, 1, 2, 0, 3);
        Check.row(x, 0, 1, 4);
        x.piece(0);
        x.image(0);
        x.walks(1, 2);
        x.hears(2, 5);
        x.numbers(1, 1, 3);
        x.write(1, 0, -1);
        x.write(1, 2, 77);
        x.numbers(2, 0, 0);
        Check.feed(x, "things 4;#");
        Check.feed(x, "mind 2;");
        return x;
    }

    /** With all that can be: 6 COURIERS, 6 PIECES, 500 bytes on THE TAPE. */
    private static NineInMind filled() {
        NineInMind x = Check.withLore("things 6;mind 3;");
        for (int n = 0; n < 6; n++) {
            x.comes(3);
            Check.row(x, 0, n, 5 - n);
            x.piece(0);
        }
        for (int n = 0; n < 25; n++) {
            x.feed(0x20202020, 0x20202020, 0x20202020, 0x20202020, 0x20202020);
        }
        return x;
    }

    /** All that can be seen; at last what is in IMAGES, ROWS and on THE TAPE comes out by calls that change it. */
    private static String whole(NineInMind x) {
        StringBuilder s = new StringBuilder();
        world(s, x);
        for (int i = 0; i < 2; i++) {
            s.append("\nrestore ").append(x.restore(i));
            world(s, x);
        }
        for (int row = 0; row < 4; row++) {
            s.append("\nrow ").append(row).append(':');
            for (int size = 1; size < 4; size++) {
                s.append(' ').append(x.kept(row, size, 0));
            }
            for (int i = 0; i < 5; i++) {
                s.append(' ').append(x.farBack(row, i)).append(' ').append(x.write(row, i, 0x123456789abcdefL));
            }
        }
        s.append("\ntape ").append(x.lore(x.count(6))).append(' ').append(x.fault(1)).append(' ').append(x.count(0));
        return s.toString();
    }

    private static void world(StringBuilder s, NineInMind x) {
        for (int what = 0; what < 7; what++) {
            s.append(what == 0 ? "\ncount " : " ").append(x.count(what));
        }
        s.append("\nfault ").append(x.fault(0)).append(' ').append(x.fault(1));
        int things = x.count(0);
        for (int t = 0; t < things; t++) {
            s.append("\nthing ").append(x.thing(t, 0)).append(' ').append(x.thing(t, 1)).append(' ').append(x.thing(t, 2));
        }
        int inns = x.count(2);
        for (int inn = 0; inn < inns; inn++) {
            s.append("\nnews ").append(x.news(inn, -1)).append(' ').append(x.news(inn, 0));
        }
        int couriers = x.count(3);
        for (int c = 0; c < couriers; c++) {
            s.append("\ncourier ").append(x.of(c, 0)).append(' ').append(x.of(c, 1)).append(' ').append(x.of(c, 5))
                    .append(' ').append(Long.toHexString(Check.mind(x, c)));
            // an object answers 512 calls alone
            for (int t = 0; t < things && couriers < 6; t++) {
                s.append(' ').append(x.lost(c, t));
            }
        }
        s.append("\npieces ").append(x.unfit()).append(' ').append(x.gaps()).append(':');
        for (int k = -1; k < 6; k++) {
            s.append(' ').append(x.joined(k));
        }
    }

    private static final String BEGUN = whole(begun());
    private static final String FILLED = whole(filled());
    private static final String NEW = whole(new NineInMind());

    private static void on(NineInMind x, String before, int promise, String call, long code, ToLongFunction<NineInMind> f) {
        Check.promise(promise, call, code, f.applyAsLong(x));
        String after = whole(x);
        Check.promise(promise, call + " changes nothing", 0, after.equals(before) ? 0 : 1);
    }

    private static void refused(int promise, String call, long code, ToLongFunction<NineInMind> f) {
        on(begun(), BEGUN, promise, call, code, f);
    }

    private static void refusedWhenFull(int promise, String call, long code, ToLongFunction<NineInMind> f) {
        on(filled(), FILLED, promise, call, code, f);
    }

    private static void refusedWhenNew(int promise, String call, long code, ToLongFunction<NineInMind> f) {
        on(new NineInMind(), NEW, promise, call, code, f);
    }

    private static void lore() {
        refused(3, "lore(-1)", -3, x -> x.lore(-1));
        refused(3, "lore(41)", -3, x -> x.lore(41));
        refused(3, "lore(min)", -3, x -> x.lore(MIN));
        refused(3, "lore(max)", -3, x -> x.lore(MAX));
        refused(5, "thing(6, 0)", -2, x -> x.thing(6, 0));
        refused(5, "thing(0, 3)", -2, x -> x.thing(0, 3));
        refused(6, "news(3, -1)", -2, x -> x.news(3, -1));
        refused(6, "news(1, 2)", -7, x -> x.news(1, 2));
        refused(6, "news(3, 2): -2 ahead of -7", -2, x -> x.news(3, 2));
    }

    private static void couriers() {
        refused(7, "comes(0)", -3, x -> x.comes(0));
        refused(7, "comes(4)", -3, x -> x.comes(4));
        refused(8, "of(3, 0)", -2, x -> x.of(3, 0));
        refused(8, "of(0, 6)", -2, x -> x.of(0, 6));
        refused(8, "of(0, 13)", -7, x -> x.of(0, 13));
        refused(8, "of(3, 13): -2 ahead of -7", -2, x -> x.of(3, 13));
        refused(9, "lost(3, 0)", -2, x -> x.lost(3, 0));
        refused(9, "lost(0, 6)", -2, x -> x.lost(0, 6));
        refused(10, "hears(3, 0)", -2, x -> x.hears(3, 0));
        refused(10, "hears(0, 6)", -2, x -> x.hears(0, 6));
        refused(10, "hears(-1, -1)", -2, x -> x.hears(-1, -1));
        refused(11, "says(3, 0)", -2, x -> x.says(3, 0));
        refused(11, "says(0, 6): -2 ahead of -5", -2, x -> x.says(0, 6));
        refused(11, "says(0, 1)", -5, x -> x.says(0, 1));
        refused(12, "tells(3, 0, 0)", -2, x -> x.tells(3, 0, 0));
        refused(12, "tells(0, 3, 0)", -2, x -> x.tells(0, 3, 0));
        refused(12, "tells(0, 0, 0)", -2, x -> x.tells(0, 0, 0));
        refused(12, "tells(0, 0, 1): -2 ahead of -5", -2, x -> x.tells(0, 0, 1));
        refused(12, "tells(0, 1, 6): -2 ahead of -5", -2, x -> x.tells(0, 1, 6));
        refused(12, "tells(0, 2, 1): he has it not", -5, x -> x.tells(0, 2, 1));
        refused(12, "tells(0, 1, 0): elsewhere", -5, x -> x.tells(0, 1, 0));
        refused(12, "tells(0, 1, 1): both", -5, x -> x.tells(0, 1, 1));
        refused(13, "walks(3, 0)", -2, x -> x.walks(3, 0));
        refused(13, "walks(0, 3)", -2, x -> x.walks(0, 3));
        refused(13, "walks(0, -1)", -2, x -> x.walks(0, -1));
        refused(15, "delivers(3)", -2, x -> x.delivers(3));
        refused(15, "delivers(-1)", -2, x -> x.delivers(-1));
        refused(17, "risk(3, 0)", -2, x -> x.risk(3, 0));
        refused(17, "risk(0, 6)", -2, x -> x.risk(0, 6));
        refused(18, "loud(3, 0)", -2, x -> x.loud(3, 0));
        refused(18, "loud(0, 3)", -2, x -> x.loud(0, 3));
        refused(19, "turned(3, 0)", -2, x -> x.turned(3, 0));
        refused(19, "turned(0, 3)", -2, x -> x.turned(0, 3));
        refused(22, "day(1, 0)", -3, x -> x.day(1, 0));
        refused(22, "day(1, 41)", -3, x -> x.day(1, 41));
    }

    private static void couriersByRows() {
        refused(14, "recites(3, 0)", -2, x -> x.recites(3, 0));
        refused(14, "recites(0, 4)", -2, x -> x.recites(0, 4));
        refused(14, "recites(0, 3)", -6, x -> x.recites(0, 3));
        refused(14, "recites(3, 3): -2 ahead of -6", -2, x -> x.recites(3, 3));
        refused(20, "judge(3, 0, 0)", -2, x -> x.judge(3, 0, 0));
        refused(20, "judge(0, 4, 0)", -2, x -> x.judge(0, 4, 0));
        refused(20, "judge(0, 0, 4)", -2, x -> x.judge(0, 0, 4));
        refused(20, "judge(0, 3, 0)", -6, x -> x.judge(0, 3, 0));
        refused(20, "judge(0, 3, 4): -2 ahead of -6", -2, x -> x.judge(0, 3, 4));
        refused(20, "judge(3, 3, 0): -2 ahead of -6", -2, x -> x.judge(3, 3, 0));
        refused(21, "perform(3, 0)", -2, x -> x.perform(3, 0));
        refused(21, "perform(0, 4)", -2, x -> x.perform(0, 4));
        refused(21, "perform(0, 3)", -6, x -> x.perform(0, 3));
        refused(21, "perform(3, 3): -2 ahead of -6", -2, x -> x.perform(3, 3));
        refused(21, "perform(0, 1): none of them can be", 0, x -> x.perform(0, 1));
        refused(45, "copy(3, 0)", -2, x -> x.copy(3, 0));
        refused(45, "copy(0, 4)", -2, x -> x.copy(0, 4));
        refused(45, "copy(0, 3)", -6, x -> x.copy(0, 3));
        refused(45, "copy(0, 0): three into two", -7, x -> x.copy(0, 0));
        refused(45, "copy(2, 2): one into none", -7, x -> x.copy(2, 2));
        refused(45, "copy(3, 3): -2 ahead of -6", -2, x -> x.copy(3, 3));
        refused(45, "copy(3, 2): -2 ahead of -7", -2, x -> x.copy(3, 2));
    }

    private static void hearings() {
        refused(23, "fresh(4, 1, 0)", -2, x -> x.fresh(4, 1, 0));
        refused(23, "fresh(0, 1, 3)", -2, x -> x.fresh(0, 1, 3));
        refused(23, "fresh(3, 1, 0)", -6, x -> x.fresh(3, 1, 0));
        refused(23, "fresh(0, 10, 0)", -3, x -> x.fresh(0, 10, 0));
        refused(23, "fresh(1, 1, 0)", -3, x -> x.fresh(1, 1, 0));
        refused(23, "fresh(3, 0, 3): -2 ahead of all", -2, x -> x.fresh(3, 0, 3));
        refused(23, "fresh(3, 0, 0): -6 ahead of -3", -6, x -> x.fresh(3, 0, 0));
        refused(23, "fresh(1, 0, 3): -2 ahead of -3", -2, x -> x.fresh(1, 0, 3));
        refused(24, "kept(4, 1, 0)", -2, x -> x.kept(4, 1, 0));
        refused(24, "kept(0, 1, 2)", -2, x -> x.kept(0, 1, 2));
        refused(24, "kept(3, 1, 0)", -6, x -> x.kept(3, 1, 0));
        refused(24, "kept(1, 1, 0)", -3, x -> x.kept(1, 1, 0));
        refused(24, "kept(3, 0, 2): -2 ahead of all", -2, x -> x.kept(3, 0, 2));
        refused(24, "kept(3, 0, 1): -6 ahead of -3", -6, x -> x.kept(3, 0, 1));
        refused(25, "less(4)", -2, x -> x.less(4));
        refused(25, "less(3)", -6, x -> x.less(3));
        refused(25, "less(1)", -3, x -> x.less(1));
        refused(26, "enough(4, 1, 0)", -2, x -> x.enough(4, 1, 0));
        refused(26, "enough(3, 1, 3): -2 ahead of -6", -2, x -> x.enough(3, 1, 3));
        refused(26, "enough(3, 1, 2)", -6, x -> x.enough(3, 1, 2));
        refused(26, "enough(1, 1, 2)", -3, x -> x.enough(1, 1, 2));
        refused(26, "enough(1, 1, 3): -2 ahead of -3", -2, x -> x.enough(1, 1, 3));
        refused(27, "farBack(4, 0)", -2, x -> x.farBack(4, 0));
        refused(27, "farBack(3, 0)", -6, x -> x.farBack(3, 0));
        refused(27, "farBack(3, 99): -6 ahead of -7", -6, x -> x.farBack(3, 99));
        refused(27, "farBack(0, 2)", -7, x -> x.farBack(0, 2));
        refused(27, "farBack(1, 0)", -3, x -> x.farBack(1, 0));
        refused(27, "farBack(1, 3): -7 ahead of -3", -7, x -> x.farBack(1, 3));
        refused(28, "through(4, 1, 0)", -2, x -> x.through(4, 1, 0));
        refused(28, "through(0, 1, 3)", -2, x -> x.through(0, 1, 3));
        refused(28, "through(3, 1, 3): -2 ahead of -6", -2, x -> x.through(3, 1, 3));
        refused(28, "through(3, 0, 0): -6 ahead of -3", -6, x -> x.through(3, 0, 0));
        refused(28, "through(0, 0, 0)", -3, x -> x.through(0, 0, 0));
        refused(28, "through(1, 1, 0)", -3, x -> x.through(1, 1, 0));
        refused(28, "through(1, 0, 3): -2 ahead of -3", -2, x -> x.through(1, 0, 3));
        refused(29, "sizeFor(4, 0)", -2, x -> x.sizeFor(4, 0));
        refused(29, "sizeFor(3, 3): -2 ahead of -6", -2, x -> x.sizeFor(3, 3));
        refused(29, "sizeFor(3, 0)", -6, x -> x.sizeFor(3, 0));
        refused(29, "sizeFor(1, 0)", -3, x -> x.sizeFor(1, 0));
        refused(29, "sizeFor(1, 3): -2 ahead of -3", -2, x -> x.sizeFor(1, 3));
        refused(30, "told(1, 1, 3, 0)", -2, x -> x.told(1, 1, 3, 0));
        refused(30, "told(1, 1, 0, 16)", -2, x -> x.told(1, 1, 0, 16));
        refused(30, "told(64, 1, 0, 0)", -3, x -> x.told(64, 1, 0, 0));
        refused(30, "told(1, 10, 0, 0)", -3, x -> x.told(1, 10, 0, 0));
        refused(30, "told(64, 0, 3, 0): -2 ahead of -3", -2, x -> x.told(64, 0, 3, 0));
        refused(30, "told(64, 0, 0, 2): -2 ahead of -3", -2, x -> x.told(64, 0, 0, 2));
    }

    private static void men() {
        refused(31, "back(64)", -3, x -> x.back(64));
        refused(32, "seeds(64)", -3, x -> x.seeds(64));
        refused(33, "men(64, 1, false)", -3, x -> x.men(64, 1, false));
        refused(33, "men(1, 10, true)", -3, x -> x.men(1, 10, true));
        refused(34, "load(64, 1, false, 0)", -3, x -> x.load(64, 1, false, 0));
        refused(34, "load(1, 0, true, 0)", -3, x -> x.load(1, 0, true, 0));
        refused(34, "load(1, 1, false, 1)", -1, x -> x.load(1, 1, false, 1));
        String nine = whole(Check.withLore("things 9;"));
        on(Check.withLore("things 9;"), nine, 33, "men(511, 9, true): nine doubled", -4, x -> x.men(511, 9, true));
        on(Check.withLore("things 9;"), nine, 33, "men(511, 0, true): -3 ahead of -4", -3, x -> x.men(511, 0, true));
        on(Check.withLore("things 9;"), nine, 34, "load(511, 9, true, 0): nine doubled", -4, x -> x.load(511, 9, true, 0));
        on(Check.withLore("things 9;"), nine, 34, "load(511, 10, true, 0): -3 ahead of -4", -3, x -> x.load(511, 10, true, 0));
        refused(37, "asked(64)", -3, x -> x.asked(64));
        refused(38, "broken(3, 0)", -2, x -> x.broken(3, 0));
        refused(38, "broken(0, 64)", -3, x -> x.broken(0, 64));
        refused(38, "broken(3, 64): -2 ahead of -3", -2, x -> x.broken(3, 64));
    }

    private static void roadAndQuestions() {
        refused(35, "road(3, 0, 0)", -2, x -> x.road(3, 0, 0));
        refused(35, "road(0, 3, 0)", -2, x -> x.road(0, 3, 0));
        refused(35, "road(0, 0, 13)", -2, x -> x.road(0, 0, 13));
        refused(36, "questions(3, 0, 1, 0)", -2, x -> x.questions(3, 0, 1, 0));
        refused(36, "questions(0, 3, 1, 0)", -2, x -> x.questions(0, 3, 1, 0));
        refused(36, "questions(1, 1, 1, 0)", -2, x -> x.questions(1, 1, 1, 0));
        refused(36, "questions(0, 1, 1, 13)", -2, x -> x.questions(0, 1, 1, 13));
        refused(36, "questions(0, 1, 4, 0)", -3, x -> x.questions(0, 1, 4, 0));
        refused(36, "questions(1, 1, 4, 0): -2 ahead of -3", -2, x -> x.questions(1, 1, 4, 0));
        refused(36, "questions(0, 1, 4, 13): -2 ahead of -3", -2, x -> x.questions(0, 1, 4, 13));
    }

    private static void pieces() {
        refused(39, "piece(4)", -2, x -> x.piece(4));
        refused(39, "piece(3)", -6, x -> x.piece(3));
        refused(39, "piece(2): no numbers", -3, x -> x.piece(2));
        refused(39, "piece(1): no THINGS", -3, x -> x.piece(1));
        refused(40, "joined(-2)", -3, x -> x.joined(-2));
    }

    private static void rowsAndImages() {
        refused(43, "numbers(4, 0, 1)", -2, x -> x.numbers(4, 0, 1));
        refused(43, "numbers(0, 4, 1)", -2, x -> x.numbers(0, 4, 1));
        refused(43, "numbers(3, -1, 1)", -2, x -> x.numbers(3, -1, 1));
        refused(43, "numbers(0, 0, 41)", -3, x -> x.numbers(0, 0, 41));
        refused(43, "numbers(3, 0, -1)", -3, x -> x.numbers(3, 0, -1));
        refused(43, "numbers(4, 0, 41): -2 ahead of -3", -2, x -> x.numbers(4, 0, 41));
        refused(43, "numbers(0, 4, -1): -2 ahead of -3", -2, x -> x.numbers(0, 4, -1));
        refused(44, "write(4, 0, 9)", -2, x -> x.write(4, 0, 9));
        refused(44, "write(3, 0, 9)", -6, x -> x.write(3, 0, 9));
        refused(44, "write(3, 99, 9): -6 ahead of -7", -6, x -> x.write(3, 99, 9));
        refused(44, "write(0, 2, 9)", -7, x -> x.write(0, 2, 9));
        refused(44, "write(0, -1, 9)", -7, x -> x.write(0, -1, 9));
        refused(46, "image(2)", -2, x -> x.image(2));
        refused(46, "image(-1)", -2, x -> x.image(-1));
        refused(47, "restore(2)", -2, x -> x.restore(2));
        refused(47, "restore(-1)", -2, x -> x.restore(-1));
        refused(47, "restore(1): none was made", -5, x -> x.restore(1));
    }

    private static void onFullOnes() {
        refusedWhenFull(2, "feed above 500", -5, x -> x.feed(-1, -1, -1, -1, -1));
        refusedWhenFull(3, "lore(501)", -3, x -> x.lore(501));
        refusedWhenFull(7, "comes(3): there are 6", -4, x -> x.comes(3));
        refusedWhenFull(7, "comes(4): -4 ahead of -3", -4, x -> x.comes(4));
        refusedWhenFull(39, "piece(0): there are 6", -4, x -> x.piece(0));
        refusedWhenFull(39, "piece(1): -6 ahead of -4", -6, x -> x.piece(1));
        refusedWhenFull(12, "tells(5, 4, 0): he has it not", -5, x -> x.tells(5, 4, 0));
        refusedWhenFull(8, "of(6, 0)", -2, x -> x.of(6, 0));
    }

    private static void onNewOnes() {
        refusedWhenNew(3, "lore(1) of nothing", -3, x -> x.lore(1));
        refusedWhenNew(7, "comes(1) without THINGS", -5, x -> x.comes(1));
        refusedWhenNew(7, "comes(0): -5 ahead of -3", -5, x -> x.comes(0));
        refusedWhenNew(22, "day(1, 1) without COURIERS", -5, x -> x.day(1, 1));
        refusedWhenNew(22, "day(1, 0): -5 ahead of -3", -5, x -> x.day(1, 0));
        refusedWhenNew(10, "hears(0, 0)", -2, x -> x.hears(0, 0));
        refusedWhenNew(13, "walks(0, 0)", -2, x -> x.walks(0, 0));
        refusedWhenNew(39, "piece(0)", -6, x -> x.piece(0));
        refusedWhenNew(44, "write(0, 0, 0)", -6, x -> x.write(0, 0, 0));
        refusedWhenNew(45, "copy(0, 0): -2 ahead of -6", -2, x -> x.copy(0, 0));
        refusedWhenNew(47, "restore(0)", -5, x -> x.restore(0));
    }

    /** Calls that ask what would be leave all as it was, too. */
    private static void askingChangesNothing() {
        refused(16, "breach()", 1064, x -> x.breach());
        refused(17, "risk(0, 4)", 1, x -> x.risk(0, 4));
        refused(18, "loud(0, 2)", 3, x -> x.loud(0, 2));
        refused(20, "judge(0, 0, 0)", -1, x -> x.judge(0, 0, 0));
        refused(20, "judge(0, 0, 1)", 2, x -> x.judge(0, 0, 1));
        refused(23, "fresh(0, 1, 2)", 2, x -> x.fresh(0, 1, 2));
        refused(24, "kept(0, 1, 0)", 16, x -> x.kept(0, 1, 0));
        refused(25, "less(0)", -1, x -> x.less(0));
        refused(26, "enough(0, 2, 1)", 1, x -> x.enough(0, 2, 1));
        refused(28, "through(0, 1, 2)", 16, x -> x.through(0, 1, 2));
        refused(29, "sizeFor(0, 0)", 2, x -> x.sizeFor(0, 0));
        refused(30, "told(3, 3, 2, 0)", 11, x -> x.told(3, 3, 2, 0));
        refused(31, "back(5)", 39, x -> x.back(5));
        refused(32, "seeds(39)", 5, x -> x.seeds(39));
        refused(33, "men(63, 9, true)", 4, x -> x.men(63, 9, true));
        refused(34, "load(63, 9, true, 0)", 8, x -> x.load(63, 9, true, 0));
        refused(35, "road(0, 2, 0)", 3, x -> x.road(0, 2, 0));
        refused(36, "questions(0, 2, 1, 0)", 11, x -> x.questions(0, 2, 1, 0));
        refused(37, "asked(63)", 7, x -> x.asked(63));
        refused(38, "broken(2, 63)", 32, x -> x.broken(2, 63));
        refused(40, "joined(1)", 4, x -> x.joined(1));
    }
}
