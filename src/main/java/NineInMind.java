import java.util.Arrays;

/** Things in mind: a lore, couriers who carry it, and what comes of it. The document tells every answer. */
public final class NineInMind {
    public static final int NONE = -1;

    private static final int NO_SUCH = -2;
    private static final int CANNOT_BE = -3;
    private static final int TOO_MANY = -4;
    private static final int NOT_NOW = -5;
    private static final int MISSING = -6;
    private static final int NO_PLACE = -7;
    private static final int FAULTY = -30;

    private static final int MOST_BYTES = 500;
    private static final int FED_BYTES = 20;
    private static final int MOST_THINGS = 16;
    private static final int MOST_SIZE = 9;
    private static final int MOST_WORTH = 99;
    private static final int MOST_INNS = 10;
    private static final int MOST_NEWS = 9;
    private static final int MOST_COURIERS = 6;
    private static final int MOST_PIECES = 6;
    private static final int MOST_IN_PIECE = 8;
    private static final int MOST_ROWS = 4;
    private static final int MOST_IN_ROW = 40;
    private static final int MOST_IMAGES = 2;
    private static final int MOST_TIMES = 40;
    private static final int MOST_TOLD = 6;
    private static final int MOST_AHEAD = 3;
    private static final int MOST_DOUBLED = 8;
    private static final int FIRST_PLACE = 10;

    private static final int BY_SAYING = 0;
    private static final int BY_COMING = 1;
    private static final int BY_FORESIGHT = 2;

    private final Reader reader = new Reader();
    private final World now = new World();
    private final Lore known = now.lore;
    private final Company company = now.company;
    private final Pieces pieces = now.pieces;
    private final World[] images = new World[MOST_IMAGES];
    private final Row[] rows = new Row[MOST_ROWS];
    private final Company judged = new Company();
    private final Hearings hearings = new Hearings();
    private final Seeds seeding = new Seeds();
    private final Carriers carriers = new Carriers();
    private final Ahead ahead = new Ahead();

    public NineInMind() {
        for (int i = 0; i < images.length; i++) {
            images[i] = new World();
        }
        for (int i = 0; i < rows.length; i++) {
            rows[i] = new Row();
        }
    }

    // ---- the lore

    public int feed(int a, int b, int c, int d, int e) {
        if (reader.taped + FED_BYTES > MOST_BYTES) {
            return NOT_NOW;
        }
        reader.putOnTape(a);
        reader.putOnTape(b);
        reader.putOnTape(c);
        reader.putOnTape(d);
        reader.putOnTape(e);
        return reader.taped;
    }

    public int lore(int n) {
        if (n < 0 || n > reader.taped) {
            return CANNOT_BE;
        }
        if (!reader.readText(n)) {
            return FAULTY - reader.flaw;
        }
        now.beginWith(reader.lore);
        return known.lines;
    }

    public int fault(int what) {
        switch (what) {
            case 0:
                return reader.flaw;
            case 1:
                return reader.place;
            default:
                return NONE;
        }
    }

    public int thing(int t, int what) {
        if (!known.isThing(t)) {
            return NO_SUCH;
        }
        switch (what) {
            case 0:
                return known.worths[t];
            case 1:
                return known.rhymes[t];
            case 2:
                return known.secrets[t];
            default:
                return NO_SUCH;
        }
    }

    public int news(int inn, int k) {
        if (!known.isInn(inn)) {
            return NO_SUCH;
        }
        if (k == NONE) {
            return known.newsMany[inn];
        }
        if (k < 0 || k >= known.newsMany[inn]) {
            return NO_PLACE;
        }
        return known.newsAt(inn, k);
    }

    // ---- couriers

    public int comes(int size) {
        if (company.many >= MOST_COURIERS) {
            return TOO_MANY;
        }
        if (known.things == 0) {
            return NOT_NOW;
        }
        if (size < 1 || size > known.mind) {
            return CANNOT_BE;
        }
        return company.addOne(size);
    }

    public int of(int c, int what) {
        if (!company.isOne(c)) {
            return NO_SUCH;
        }
        Courier one = company.couriers[c];
        switch (what) {
            case 0:
                return one.size;
            case 1:
                return one.inn;
            case 2:
                return one.many;
            case 3:
                return one.held;
            case 4:
                return known.worthOf(one.held);
            case 5:
                return one.lostMany;
            default:
                break;
        }
        if (what < FIRST_PLACE) {
            return NO_SUCH;
        }
        int k = what - FIRST_PLACE;
        return k < one.many ? one.thingAt(k) : NO_PLACE;
    }

    public int lost(int c, int t) {
        if (!company.isOne(c) || !known.isThing(t)) {
            return NO_SUCH;
        }
        return company.couriers[c].lostAt[t];
    }

    public int hears(int c, int t) {
        if (!company.isOne(c) || !known.isThing(t)) {
            return NO_SUCH;
        }
        return company.couriers[c].hear(t);
    }

    public int says(int c, int t) {
        if (!company.isOne(c) || !known.isThing(t)) {
            return NO_SUCH;
        }
        Courier one = company.couriers[c];
        return one.has(t) ? one.say(known, t) : NOT_NOW;
    }

    public int tells(int c, int other, int t) {
        if (!company.areTwo(c, other) || !known.isThing(t)) {
            return NO_SUCH;
        }
        Courier one = company.couriers[c];
        Courier listener = company.couriers[other];
        if (!one.has(t) || one.inn != listener.inn) {
            return NOT_NOW;
        }
        int gone = one.say(known, t);
        return listener.hear(t) == NONE ? gone : gone + 1;
    }

    public int walks(int c, int inn) {
        if (!company.isOne(c) || !known.isInn(inn)) {
            return NO_SUCH;
        }
        return company.couriers[c].walk(known, inn);
    }

    public int recites(int c, int row) {
        if (!company.isOne(c)) {
            return NO_SUCH;
        }
        int no = refusalOfRow(row);
        if (no != 0) {
            return no;
        }
        return company.couriers[c].recite(known, rows[row]);
    }

    public int delivers(int c) {
        if (!company.isOne(c)) {
            return NO_SUCH;
        }
        return company.couriers[c].deliver(known);
    }

    public int breach() {
        for (int c = 0; c < company.many; c++) {
            int pair = known.secretPair(company.couriers[c].held);
            if (pair != NONE) {
                return 1000 * c + pair;
            }
        }
        return NONE;
    }

    public int risk(int c, int t) {
        if (!company.isOne(c) || !known.isThing(t)) {
            return NO_SUCH;
        }
        judged.likeOf(company);
        Courier one = judged.couriers[c];
        one.hear(t);
        return known.secretPair(one.held) == NONE ? 0 : 1;
    }

    public int loud(int inn, int other) {
        if (!known.isInn(inn) || !known.isInn(other)) {
            return NO_SUCH;
        }
        return Integer.bitCount(known.newsOnWay(inn, other));
    }

    public int turned(int c, int other) {
        if (!company.isOne(c) || !company.isOne(other)) {
            return NO_SUCH;
        }
        return company.turnedPairs(company.couriers[c], company.couriers[other]);
    }

    public int judge(int c, int row, int what) {
        if (!company.isOne(c) || what < 0 || what > 3) {
            return NO_SUCH;
        }
        int no = refusalOfRow(row);
        if (no != 0) {
            return no;
        }
        judged.likeOf(company);
        int done = judged.act(known, c, rows[row]);
        Courier one = judged.couriers[c];
        switch (what) {
            case 0:
                return done < rows[row].many ? done : NONE;
            case 1:
                return one.lostMany - company.couriers[c].lostMany;
            case 2:
                return one.held;
            default:
                return judged.breaches;
        }
    }

    public int perform(int c, int row) {
        if (!company.isOne(c)) {
            return NO_SUCH;
        }
        int no = refusalOfRow(row);
        if (no != 0) {
            return no;
        }
        return company.act(known, c, rows[row]);
    }

    public int day(int seed, int times) {
        if (company.many == 0) {
            return NOT_NOW;
        }
        if (times < 1 || times > MOST_TIMES) {
            return CANNOT_BE;
        }
        return company.spendDay(known, seed, times);
    }

    // ---- hearings

    public int fresh(int row, int size, int law) {
        int no = refusalOfHearings(row, size, law, BY_FORESIGHT);
        return no != 0 ? no : hearings.newOnes(size, law);
    }

    public int kept(int row, int size, int law) {
        int no = refusalOfHearings(row, size, law, BY_COMING);
        if (no != 0) {
            return no;
        }
        hearings.newOnes(size, law);
        return hearings.held;
    }

    public int less(int row) {
        int no = refusalOfHearings(row, 1, BY_COMING, BY_COMING);
        if (no != 0) {
            return no;
        }
        for (int size = 1; size < MOST_SIZE; size++) {
            if (hearings.newOnes(size, BY_COMING) < hearings.newOnes(size + 1, BY_COMING)) {
                return size;
            }
        }
        return NONE;
    }

    public int enough(int row, int many, int law) {
        int no = refusalOfHearings(row, 1, law, BY_FORESIGHT);
        if (no != 0) {
            return no;
        }
        for (int size = 1; size <= MOST_SIZE; size++) {
            if (hearings.newOnes(size, law) <= many) {
                return size;
            }
        }
        return NONE;
    }

    public int farBack(int row, int i) {
        int no = refusalOfRow(row);
        if (no != 0) {
            return no;
        }
        if (i < 0 || i >= rows[row].many) {
            return NO_PLACE;
        }
        return hearings.takeRow(rows[row], known) ? hearings.unlikeSinceLast(i) : CANNOT_BE;
    }

    public int through(int row, int size, int inn) {
        if (!known.isInn(inn)) {
            return NO_SUCH;
        }
        int no = refusalOfHearings(row, size, BY_SAYING, BY_SAYING);
        return no != 0 ? no : hearings.comesThrough(known, size, inn);
    }

    public int sizeFor(int row, int inn) {
        if (!known.isInn(inn)) {
            return NO_SUCH;
        }
        int no = refusalOfHearings(row, 1, BY_SAYING, BY_SAYING);
        if (no != 0) {
            return no;
        }
        int all = hearings.inRow();
        for (int size = 1; size <= MOST_SIZE; size++) {
            if ((all & ~hearings.comesThrough(known, size, inn)) == 0) {
                return size;
            }
        }
        return NONE;
    }

    public int told(int set, int size, int inn, int what) {
        if (!known.isInn(inn) || !isAnswerOrPlace(what, MOST_TOLD)) {
            return NO_SUCH;
        }
        if (!known.isSet(set) || Integer.bitCount(set) > MOST_TOLD || !isSize(size)) {
            return CANNOT_BE;
        }
        hearings.tellBest(known, set, size, inn);
        return hearings.answerOfTold(what);
    }

    // ---- rhymes, men

    public int back(int set) {
        return known.isSet(set) ? known.comeBack(set) : CANNOT_BE;
    }

    public int seeds(int wanted) {
        return known.isSet(wanted) ? seeding.fewestFor(known, wanted) : CANNOT_BE;
    }

    public int men(int wanted, int each, boolean doubled) {
        int no = refusalOfMen(wanted, each, doubled);
        return no != 0 ? no : carriers.fewest(known, wanted, each, doubled);
    }

    public int load(int wanted, int each, boolean doubled, int man) {
        int no = refusalOfMen(wanted, each, doubled);
        if (no != 0) {
            return no;
        }
        int many = carriers.fewest(known, wanted, each, doubled);
        return man < 0 || man >= many ? NONE : carriers.loadOf(man, many);
    }

    // ---- road, questions

    public int road(int c, int inn, int what) {
        if (!company.isOne(c) || !known.isInn(inn) || !isAnswerOrPlace(what, MOST_AHEAD)) {
            return NO_SUCH;
        }
        ahead.chooseSayings(known, company.couriers[c], inn);
        return ahead.answer(what);
    }

    public int questions(int c, int other, int q, int what) {
        if (!company.areTwo(c, other) || !isAnswerOrPlace(what, MOST_AHEAD)) {
            return NO_SUCH;
        }
        if (q < 0 || q > MOST_AHEAD) {
            return CANNOT_BE;
        }
        ahead.chooseQuestions(known, company.couriers[c], company.couriers[other].held, q);
        return ahead.answer(what);
    }

    public int asked(int wanted) {
        return known.isSet(wanted) ? company.fewestHolding(wanted) : CANNOT_BE;
    }

    public int broken(int c, int wanted) {
        if (!company.isOne(c)) {
            return NO_SUCH;
        }
        return known.isSet(wanted) ? wanted & company.heldByHimAlone(c) : CANNOT_BE;
    }

    // ---- pieces

    public int piece(int row) {
        int no = refusalOfRow(row);
        if (no != 0) {
            return no;
        }
        if (pieces.many >= MOST_PIECES) {
            return TOO_MANY;
        }
        int length = rows[row].many;
        if (length < 1 || length > MOST_IN_PIECE || !hearings.takeRow(rows[row], known)) {
            return CANNOT_BE;
        }
        return pieces.addOne(hearings.row, length);
    }

    public int joined(int k) {
        if (k < NONE) {
            return CANNOT_BE;
        }
        pieces.join();
        if (k == NONE) {
            return pieces.bestMany;
        }
        return k < pieces.bestMany ? pieces.best[k] : NONE;
    }

    public int unfit() {
        for (int i = 0; i < pieces.many; i++) {
            for (int j = i + 1; j < pieces.many; j++) {
                if (pieces.areUnfit(i, j)) {
                    return 10 * i + j;
                }
            }
        }
        return NONE;
    }

    public int gaps() {
        return known.allThings() & ~pieces.inThem();
    }

    // ---- rows of numbers, images

    public int numbers(int row, int sort, int n) {
        if (row < 0 || row >= rows.length || sort < 0 || sort > Row.LONGS) {
            return NO_SUCH;
        }
        if (n < 0 || n > MOST_IN_ROW) {
            return CANNOT_BE;
        }
        rows[row].begin(sort, n);
        return 0;
    }

    public long write(int row, int i, long v) {
        int no = refusalOfRow(row);
        if (no != 0) {
            return no;
        }
        if (i < 0 || i >= rows[row].many) {
            return NO_PLACE;
        }
        return rows[row].put(i, v);
    }

    public int copy(int c, int row) {
        if (!company.isOne(c)) {
            return NO_SUCH;
        }
        int no = refusalOfRow(row);
        if (no != 0) {
            return no;
        }
        Courier one = company.couriers[c];
        if (one.many > rows[row].many) {
            return NO_PLACE;
        }
        for (int k = 0; k < one.many; k++) {
            rows[row].put(k, one.thingAt(k));
        }
        return one.many;
    }

    public int image(int i) {
        if (i < 0 || i >= images.length) {
            return NO_SUCH;
        }
        images[i].likeOf(now);
        images[i].made = true;
        return 0;
    }

    public int restore(int i) {
        if (i < 0 || i >= images.length) {
            return NO_SUCH;
        }
        if (!images[i].made) {
            return NOT_NOW;
        }
        now.likeOf(images[i]);
        return 0;
    }

    public int count(int what) {
        switch (what) {
            case 0:
                return known.things;
            case 1:
                return known.mind;
            case 2:
                return known.inns;
            case 3:
                return company.many;
            case 4:
                return pieces.many;
            case 5:
                return known.lines;
            case 6:
                return reader.taped;
            default:
                return NONE;
        }
    }

    // ---- what several calls refuse alike (0: they don't)

    private int refusalOfRow(int row) {
        if (row < 0 || row >= rows.length) {
            return NO_SUCH;
        }
        return rows[row].there ? 0 : MISSING;
    }

    private int refusalOfHearings(int row, int size, int law, int lastLaw) {
        if (law < 0 || law > lastLaw) {
            return NO_SUCH;
        }
        int no = refusalOfRow(row);
        if (no != 0) {
            return no;
        }
        return isSize(size) && hearings.takeRow(rows[row], known) ? 0 : CANNOT_BE;
    }

    private int refusalOfMen(int wanted, int each, boolean doubled) {
        if (!known.isSet(wanted) || !isSize(each)) {
            return CANNOT_BE;
        }
        return doubled && Integer.bitCount(wanted) > MOST_DOUBLED ? TOO_MANY : 0;
    }

    private static boolean isSize(int size) {
        return size >= 1 && size <= MOST_SIZE;
    }

    private static boolean isAnswerOrPlace(int what, int places) {
        return what == 0 || what == 1 || what >= FIRST_PLACE && what < FIRST_PLACE + places;
    }

    /** What the text tells of THINGS and INNS. */
    private static final class Lore {
        int things;
        int mind = MOST_SIZE;
        int lines;
        int inns;
        final int[] rhymes = new int[MOST_THINGS];
        final int[] secrets = new int[MOST_THINGS];
        final int[] worths = new int[MOST_THINGS];
        final int[] newsMany = new int[MOST_INNS];
        private final int[] newsThings = new int[MOST_INNS * MOST_NEWS];

        void clear() {
            things = 0;
            mind = MOST_SIZE;
            lines = 0;
            inns = 0;
            Arrays.fill(rhymes, 0);
            Arrays.fill(secrets, 0);
            Arrays.fill(worths, 1);
            Arrays.fill(newsMany, 0);
        }

        void likeOf(Lore other) {
            things = other.things;
            mind = other.mind;
            lines = other.lines;
            inns = other.inns;
            System.arraycopy(other.rhymes, 0, rhymes, 0, rhymes.length);
            System.arraycopy(other.secrets, 0, secrets, 0, secrets.length);
            System.arraycopy(other.worths, 0, worths, 0, worths.length);
            System.arraycopy(other.newsMany, 0, newsMany, 0, newsMany.length);
            System.arraycopy(other.newsThings, 0, newsThings, 0, newsThings.length);
        }

        boolean isThing(long t) {
            return t >= 0 && t < things;
        }

        boolean isInn(long inn) {
            return inn >= 0 && inn < inns;
        }

        boolean isSet(int set) {
            return set >>> things == 0;
        }

        int allThings() {
            return (1 << things) - 1;
        }

        int newsAt(int inn, int k) {
            return newsThings[inn * MOST_NEWS + k];
        }

        boolean addNews(int inn, int t) {
            if (newsMany[inn] >= MOST_NEWS) {
                return false;
            }
            newsThings[inn * MOST_NEWS + newsMany[inn]] = t;
            newsMany[inn]++;
            return true;
        }

        /** As bits: the end of the way counts, its beginning doesn't. */
        int newsOnWay(int from, int to) {
            int step = to > from ? 1 : -1;
            int bits = 0;
            int inn = from;
            for (int left = Math.abs(to - from); left > 0; left--) {
                inn += step;
                for (int k = 0; k < newsMany[inn]; k++) {
                    bits |= 1 << newsAt(inn, k);
                }
            }
            return bits;
        }

        int worthOf(int set) {
            int sum = 0;
            for (int t = 0; t < things; t++) {
                if ((set >> t & 1) != 0) {
                    sum += worths[t];
                }
            }
            return sum;
        }

        /** 20 times one THING and the other one of the least secret within a set. */
        int secretPair(int set) {
            for (int t = 0; t < things; t++) {
                int others = (set >> t & 1) == 0 ? 0 : secrets[t] & set;
                for (int u = t + 1; u < things; u++) {
                    if ((others >> u & 1) != 0) {
                        return 20 * t + u;
                    }
                }
            }
            return NONE;
        }

        int comeBack(int set) {
            int come = set;
            // each round but the last brings one THING at least, so rounds as many as THINGS are enough
            for (int round = 0; round < things; round++) {
                int more = come;
                for (int t = 0; t < things; t++) {
                    if ((come >> t & 1) != 0) {
                        more |= rhymes[t];
                    }
                }
                if (more == come) {
                    return come;
                }
                come = more;
            }
            return come;
        }
    }

    /** THE TAPE, and its text read into a LORE of its own, so that a FAULT leaves the one in use as it is. */
    private static final class Reader {
        private static final int END = 0;
        private static final int WORD = 1;
        private static final int NUMBER = 2;
        private static final int SIGN = 3;
        private static final int BAD = 4;

        private static final int THINGS = 0;
        private static final int MIND = 1;
        private static final int RHYME = 2;
        private static final int SECRET = 3;
        private static final int WORTH = 4;
        private static final int INN = 5;

        private static final int NO_TOKEN = 1;
        private static final int NOT_THERE = 2;
        private static final int OUT_OF_BOUNDS = 3;
        private static final int ONE_MORE = 4;
        private static final int MOST_DIGITS = 3;

        final Lore lore = new Lore();
        int flaw;
        int place = NONE;
        int taped;
        private final byte[] text = new byte[MOST_BYTES];
        private int length;
        private int at;
        private int start;
        private int kind;
        private int number;

        void putOnTape(int four) {
            for (int shift = 24; shift >= 0; shift -= 8) {
                if (taped < text.length) {
                    text[taped] = (byte) (four >>> shift);
                    taped++;
                }
            }
        }

        boolean readText(int bytes) {
            length = Math.min(bytes, text.length);
            taped = 0;
            at = 0;
            flaw = 0;
            place = NONE;
            lore.clear();
            nextToken();
            // a LINE takes a byte at least
            for (int turn = 0; turn < length && kind != END; turn++) {
                if (!readLine()) {
                    return false;
                }
                lore.lines++;
                nextToken();
            }
            return true;
        }

        private boolean fail(int what) {
            flaw = what;
            place = start;
            return false;
        }

        private boolean readLine() {
            if (kind == BAD) {
                return fail(NO_TOKEN);
            }
            int line = lineHere();
            if (line == NONE || line != THINGS && lore.things == 0) {
                return fail(NOT_THERE);
            }
            switch (line) {
                case THINGS:
                    return readThings();
                case MIND:
                    return readMind();
                case RHYME:
                case SECRET:
                    return readPair(line == SECRET);
                case WORTH:
                    return readWorth();
                default:
                    return readInn();
            }
        }

        private int lineHere() {
            if (isWord("things")) {
                return THINGS;
            }
            if (isWord("mind")) {
                return MIND;
            }
            if (isWord("rhyme")) {
                return RHYME;
            }
            if (isWord("secret")) {
                return SECRET;
            }
            if (isWord("worth")) {
                return WORTH;
            }
            return isWord("inn") ? INN : NONE;
        }

        private boolean readThings() {
            if (lore.things > 0) {
                return fail(ONE_MORE);
            }
            if (!readNumber(1, MOST_THINGS, NONE)) {
                return false;
            }
            lore.things = number;
            return readSign();
        }

        private boolean readMind() {
            if (!readNumber(1, MOST_SIZE, NONE)) {
                return false;
            }
            lore.mind = number;
            return readSign();
        }

        private boolean readPair(boolean secret) {
            if (!readNumber(0, lore.things - 1, NONE)) {
                return false;
            }
            int one = number;
            if (!readNumber(0, lore.things - 1, one)) {
                return false;
            }
            if (secret) {
                lore.secrets[one] |= 1 << number;
                lore.secrets[number] |= 1 << one;
            } else {
                lore.rhymes[one] |= 1 << number;
            }
            return readSign();
        }

        private boolean readWorth() {
            if (!readNumber(0, lore.things - 1, NONE)) {
                return false;
            }
            int t = number;
            if (!readNumber(0, MOST_WORTH, NONE)) {
                return false;
            }
            lore.worths[t] = number;
            return readSign();
        }

        private boolean readInn() {
            if (lore.inns >= MOST_INNS) {
                return fail(ONE_MORE);
            }
            int inn = lore.inns;
            lore.inns++;
            for (int k = 0; k <= MOST_NEWS; k++) {
                nextToken();
                if (kind == SIGN) {
                    return true;
                }
                if (!numberStands(0, lore.things - 1, NONE)) {
                    return false;
                }
                if (!lore.addNews(inn, number)) {
                    return fail(ONE_MORE);
                }
            }
            return false;
        }

        private boolean readNumber(int least, int most, int unlike) {
            nextToken();
            return numberStands(least, most, unlike);
        }

        private boolean numberStands(int least, int most, int unlike) {
            if (kind == BAD) {
                return fail(NO_TOKEN);
            }
            if (kind != NUMBER) {
                return fail(NOT_THERE);
            }
            if (number < least || number > most || number == unlike) {
                return fail(OUT_OF_BOUNDS);
            }
            return true;
        }

        private boolean readSign() {
            nextToken();
            if (kind == BAD) {
                return fail(NO_TOKEN);
            }
            return kind == SIGN || fail(NOT_THERE);
        }

        private void nextToken() {
            while (at < length && (text[at] == 10 || text[at] == 32)) {
                at++;
            }
            start = at;
            if (at >= length) {
                kind = END;
            } else if (isLetter(text[at])) {
                kind = WORD;
                while (at < length && isLetter(text[at])) {
                    at++;
                }
            } else if (isDigit(text[at])) {
                takeDigits();
            } else {
                kind = text[at] == ';' ? SIGN : BAD;
                at++;
            }
        }

        private void takeDigits() {
            number = 0;
            while (at < length && isDigit(text[at])) {
                if (at - start < MOST_DIGITS) {
                    number = 10 * number + text[at] - '0';
                }
                at++;
            }
            kind = at - start <= MOST_DIGITS ? NUMBER : BAD;
        }

        private boolean isWord(String word) {
            if (kind != WORD || at - start != word.length()) {
                return false;
            }
            for (int i = 0; i < word.length(); i++) {
                if (text[start + i] != word.charAt(i)) {
                    return false;
                }
            }
            return true;
        }

        private static boolean isLetter(int sign) {
            return sign >= 'a' && sign <= 'z';
        }

        private static boolean isDigit(int sign) {
            return sign >= '0' && sign <= '9';
        }
    }

    /** One man and his MIND: four bits for a THING, the latest one lowest, so that a step forward is a shift. */
    private static final class Courier {
        int size = 1;
        int inn;
        int many;
        int held;
        long mind;
        int lostMany;
        final int[] lostAt = new int[MOST_THINGS];

        void begin(int newSize) {
            size = newSize;
            inn = 0;
            lostMany = 0;
            Arrays.fill(lostAt, NONE);
            setMind(0L, 0);
        }

        void likeOf(Courier other) {
            likeMindOf(other);
            lostMany = other.lostMany;
            System.arraycopy(other.lostAt, 0, lostAt, 0, lostAt.length);
        }

        void likeMindOf(Courier other) {
            size = other.size;
            inn = other.inn;
            setMind(other.mind, other.held);
        }

        void setMind(long newMind, int newHeld) {
            mind = newMind;
            held = newHeld;
            many = Integer.bitCount(newHeld);
        }

        boolean has(int t) {
            return (held >> t & 1) != 0;
        }

        int thingAt(int k) {
            return (int) (mind >>> 4 * k) & 15;
        }

        int placeOf(int t) {
            for (int k = 0; k < many; k++) {
                if (thingAt(k) == t) {
                    return k;
                }
            }
            return NONE;
        }

        /** The THING that is LOST by it, or NONE. */
        int hear(int t) {
            if (has(t)) {
                bringForward(t);
                return NONE;
            }
            mind = mind << 4 | t;
            held |= 1 << t;
            many++;
            return many > size ? loseLast() : NONE;
        }

        private void bringForward(int t) {
            int bits = 0;
            while (bits < 4 * many && (mind >>> bits & 15) != t) {
                bits += 4;
            }
            long ahead = mind & (1L << bits) - 1;
            long behind = mind >>> bits + 4 << bits + 4;
            mind = behind | ahead << 4 | t;
        }

        private int loseLast() {
            many--;
            int t = (int) (mind >>> 4 * many) & 15;
            mind &= (1L << 4 * many) - 1;
            held &= ~(1 << t);
            lostMany++;
            lostAt[t] = inn;
            return t;
        }

        int say(Lore lore, int t) {
            int before = lostMany;
            hear(t);
            int rhymes = lore.rhymes[t];
            for (int r = 0; r < lore.things && rhymes >> r != 0; r++) {
                if ((rhymes >> r & 1) != 0) {
                    hear(r);
                }
            }
            return lostMany - before;
        }

        int walk(Lore lore, int to) {
            int before = lostMany;
            int step = to > inn ? 1 : -1;
            for (int left = Math.abs(to - inn); left > 0; left--) {
                inn += step;
                for (int k = 0; k < lore.newsMany[inn]; k++) {
                    hear(lore.newsAt(inn, k));
                }
            }
            return lostMany - before;
        }

        /** A MIND is what was heard latest, so a way does what the latest of its NEWS do alone. */
        void hearLatestOf(Courier way) {
            for (int k = way.many - 1; k >= 0; k--) {
                hear(way.thingAt(k));
            }
        }

        int recite(Lore lore, Row row) {
            int said = 0;
            for (int i = 0; i < row.many; i++) {
                long t = row.values[i];
                if (lore.isThing(t) && has((int) t)) {
                    say(lore, (int) t);
                    said++;
                }
            }
            return said;
        }

        /** What COURT has then, as bits. */
        int deliver(Lore lore) {
            long before = mind;
            int court = 0;
            for (int k = many - 1; k >= 0; k--) {
                int t = (int) (before >>> 4 * k) & 15;
                if (has(t)) {
                    say(lore, t);
                    court |= 1 << t | lore.rhymes[t];
                }
            }
            return court;
        }
    }

    /** The COURIERS; a second company serves to judge what would be. */
    private static final class Company {
        final Courier[] couriers = new Courier[MOST_COURIERS];
        int many;
        /** Places of the latest ACTS behind which he held both of a secret. */
        int breaches;
        private int drawn;

        Company() {
            for (int i = 0; i < couriers.length; i++) {
                couriers[i] = new Courier();
            }
        }

        void likeOf(Company other) {
            many = other.many;
            for (int i = 0; i < many; i++) {
                couriers[i].likeOf(other.couriers[i]);
            }
        }

        boolean isOne(long c) {
            return c >= 0 && c < many;
        }

        boolean areTwo(long c, long other) {
            return isOne(c) && isOne(other) && c != other;
        }

        int addOne(int size) {
            if (many >= couriers.length) {
                return TOO_MANY;
            }
            couriers[many].begin(size);
            many++;
            return many - 1;
        }

        int turnedPairs(Courier one, Courier other) {
            int pairs = 0;
            for (int k = 0; k < one.many; k++) {
                int place = other.placeOf(one.thingAt(k));
                for (int later = k + 1; later < one.many; later++) {
                    int laterPlace = other.placeOf(one.thingAt(later));
                    if (laterPlace != NONE && laterPlace < place) {
                        pairs++;
                    }
                }
            }
            return pairs;
        }

        /** How many ACTS were done. */
        int act(Lore lore, int c, Row row) {
            breaches = 0;
            for (int i = 0; i < row.many; i++) {
                if (!actOnce(lore, c, row.values[i])) {
                    return i;
                }
                if (lore.secretPair(couriers[c].held) != NONE) {
                    breaches++;
                }
            }
            return row.many;
        }

        private boolean actOnce(Lore lore, int c, long number) {
            Courier one = couriers[c];
            if (number < 20) {
                return hearIfThere(lore, one, number);
            }
            if (number < 40) {
                return sayIfHeld(lore, one, number - 20);
            }
            if (number < 60) {
                return walkIfThere(lore, one, number - 40);
            }
            long other = number - 60;
            return areTwo(c, other) && listenIfNear(lore, one, couriers[(int) other]);
        }

        private static boolean hearIfThere(Lore lore, Courier one, long t) {
            if (!lore.isThing(t)) {
                return false;
            }
            one.hear((int) t);
            return true;
        }

        private static boolean sayIfHeld(Lore lore, Courier one, long t) {
            if (!lore.isThing(t) || !one.has((int) t)) {
                return false;
            }
            one.say(lore, (int) t);
            return true;
        }

        private static boolean walkIfThere(Lore lore, Courier one, long inn) {
            if (!lore.isInn(inn)) {
                return false;
            }
            one.walk(lore, (int) inn);
            return true;
        }

        private static boolean listenIfNear(Lore lore, Courier one, Courier teller) {
            if (one.inn != teller.inn) {
                return false;
            }
            long before = teller.mind;
            int all = teller.many;
            for (int k = 0; k < all; k++) {
                int t = (int) (before >>> 4 * k) & 15;
                if (teller.has(t)) {
                    teller.say(lore, t);
                    one.hear(t);
                }
            }
            return true;
        }

        /** How many were LOST. */
        int spendDay(Lore lore, int seed, int times) {
            drawn = seed;
            int before = lostByAll();
            for (int time = 0; time < times; time++) {
                for (int c = 0; c < many; c++) {
                    spendOnce(lore, couriers[c]);
                }
            }
            return lostByAll() - before;
        }

        private void spendOnce(Lore lore, Courier one) {
            int what = draw() % 4;
            if (what == 0) {
                if (lore.things > 0) {
                    one.hear(draw() % lore.things);
                }
            } else if (what == 1) {
                if (one.many > 0) {
                    one.say(lore, one.thingAt(draw() % one.many));
                }
            } else if (lore.inns > 0) {
                one.walk(lore, draw() % lore.inns);
            }
        }

        private int draw() {
            drawn = 1103515245 * drawn + 12345;
            return drawn >>> 16;
        }

        private int lostByAll() {
            int sum = 0;
            for (int c = 0; c < many; c++) {
                sum += couriers[c].lostMany;
            }
            return sum;
        }

        int heldByHimAlone(int c) {
            return couriers[c].held & ~heldBy(~(1 << c));
        }

        private int heldBy(int set) {
            int bits = 0;
            for (int c = 0; c < many; c++) {
                if ((set >> c & 1) != 0) {
                    bits |= couriers[c].held;
                }
            }
            return bits;
        }

        /** Of COURIERS, as bits. */
        int fewestHolding(int wanted) {
            int all = (1 << many) - 1;
            int due = wanted & heldBy(all);
            int best = all;
            for (int set = 0; set < all; set++) {
                if (Integer.bitCount(set) < Integer.bitCount(best) && (due & ~heldBy(set)) == 0) {
                    best = set;
                }
            }
            return best;
        }
    }

    /** All that an IMAGE has. */
    private static final class World {
        final Lore lore = new Lore();
        final Company company = new Company();
        final Pieces pieces = new Pieces();
        boolean made;

        void beginWith(Lore other) {
            lore.likeOf(other);
            company.many = 0;
            pieces.many = 0;
        }

        void likeOf(World other) {
            lore.likeOf(other.lore);
            company.likeOf(other.company);
            pieces.likeOf(other.pieces);
        }
    }

    /** A ROW OF NUMBERS. */
    private static final class Row {
        private static final int BYTES = 0;
        private static final int SHORTS = 1;
        private static final int INTS = 2;
        private static final int LONGS = 3;

        final long[] values = new long[MOST_IN_ROW];
        int many;
        boolean there;
        private int sort;

        void begin(int newSort, int n) {
            sort = newSort;
            many = n;
            there = true;
            Arrays.fill(values, 0L);
        }

        long put(int i, long v) {
            values[i] = cut(v);
            return values[i];
        }

        private long cut(long v) {
            switch (sort) {
                case BYTES:
                    return (byte) v;
                case SHORTS:
                    return (short) v;
                case INTS:
                    return (int) v;
                default:
                    return v;
            }
        }
    }

    /** HEARINGS of a ROW by an empty mind, what comes THROUGH, and the best order of telling. */
    private static final class Hearings {
        final int[] row = new int[MOST_IN_ROW];
        int held;
        private int many;
        private final Courier man = new Courier();
        private final Courier listener = new Courier();
        private final Courier way = new Courier();
        private final int[] order = new int[MOST_TOLD];
        private final int[] best = new int[MOST_TOLD];
        private int bestMany;
        private int bestSum;
        private int bestCourt;

        /** False if a number is no THING. */
        boolean takeRow(Row from, Lore lore) {
            many = from.many;
            for (int i = 0; i < many; i++) {
                if (!lore.isThing(from.values[i])) {
                    return false;
                }
                row[i] = (int) from.values[i];
            }
            return true;
        }

        int inRow() {
            int bits = 0;
            for (int i = 0; i < many; i++) {
                bits |= 1 << row[i];
            }
            return bits;
        }

        int newOnes(int size, int law) {
            return law == BY_FORESIGHT ? newByForesight(size) : newByRule(size, law == BY_SAYING);
        }

        private int newByRule(int size, boolean bySaying) {
            int fresh = 0;
            man.begin(size);
            for (int i = 0; i < many; i++) {
                boolean isNew = !man.has(row[i]);
                if (isNew) {
                    fresh++;
                }
                // by COMING a THING that is there keeps its place
                if (isNew || bySaying) {
                    man.hear(row[i]);
                }
            }
            held = man.held;
            return fresh;
        }

        private int newByForesight(int size) {
            int fresh = 0;
            held = 0;
            for (int i = 0; i < many; i++) {
                int bit = 1 << row[i];
                if ((held & bit) == 0) {
                    fresh++;
                    if (Integer.bitCount(held) >= size) {
                        held &= ~neededLast(i);
                    }
                    held |= bit;
                }
            }
            return fresh;
        }

        /** Driving out the one that is needed last is never worse than driving out another one. */
        private int neededLast(int i) {
            int left = held;
            for (int later = i + 1; later < many && Integer.bitCount(left) > 1; later++) {
                left &= ~(1 << row[later]);
            }
            return left & -left;
        }

        int unlikeSinceLast(int i) {
            int bits = 0;
            for (int k = i - 1; k >= 0; k--) {
                bits |= 1 << row[k];
                if (row[k] == row[i]) {
                    return Integer.bitCount(bits);
                }
            }
            return NONE;
        }

        int comesThrough(Lore lore, int size, int inn) {
            man.begin(size);
            for (int i = 0; i < many; i++) {
                man.hear(row[i]);
            }
            man.walk(lore, inn);
            return man.deliver(lore);
        }

        void tellBest(Lore lore, int set, int size, int inn) {
            bestMany = Integer.bitCount(set);
            bestSum = NONE;
            bestCourt = 0;
            listener.begin(size);
            way.begin(size);
            way.walk(lore, inn);
            tellOn(lore, set, 0);
        }

        private void tellOn(Lore lore, int left, int depth) {
            if (left == 0 || depth >= MOST_TOLD) {
                weighOrder(lore);
                return;
            }
            long mind = listener.mind;
            int had = listener.held;
            for (int t = 0; t < lore.things; t++) {
                if ((left >> t & 1) != 0) {
                    order[depth] = t;
                    listener.hear(t);
                    tellOn(lore, left & ~(1 << t), depth + 1);
                    listener.setMind(mind, had);
                }
            }
        }

        /** Orders come by THINGS, so the first of like ones stays. */
        private void weighOrder(Lore lore) {
            man.likeMindOf(listener);
            man.hearLatestOf(way);
            int court = man.deliver(lore);
            int sum = lore.worthOf(court);
            if (sum > bestSum) {
                bestSum = sum;
                bestCourt = court;
                System.arraycopy(order, 0, best, 0, order.length);
            }
        }

        int answerOfTold(int what) {
            if (what == 0) {
                return bestSum;
            }
            if (what == 1) {
                return bestCourt;
            }
            int k = what - FIRST_PLACE;
            return k >= 0 && k < bestMany && k < best.length ? best[k] : NONE;
        }
    }

    /** The fewest THINGS from which wanted ones come back. */
    private static final class Seeds {
        private final int[] reach = new int[MOST_THINGS];
        /** What comes from the THINGS up to one, and the most wanted ones that come from one of them. */
        private final int[] reachUpTo = new int[MOST_THINGS];
        private final int[] mostUpTo = new int[MOST_THINGS];

        int fewestFor(Lore lore, int wanted) {
            prepare(lore, wanted);
            for (int many = 0; many < lore.things; many++) {
                int found = leastSet(lore.things - 1, many, wanted);
                if (found != NONE) {
                    return found;
                }
            }
            return lore.allThings();
        }

        private void prepare(Lore lore, int wanted) {
            int all = 0;
            int most = 0;
            for (int t = 0; t < lore.things; t++) {
                reach[t] = lore.comeBack(1 << t);
                all |= reach[t];
                most = Math.max(most, Integer.bitCount(reach[t] & wanted));
                reachUpTo[t] = all;
                mostUpTo[t] = most;
            }
        }

        /** Of sets of so many of the THINGS 0 to last: those without the highest ones come first, being less. */
        private int leastSet(int last, int many, int open) {
            if (open == 0) {
                return 0;
            }
            if (last < 0 || (open & ~reachUpTo[last]) != 0 || Integer.bitCount(open) > many * mostUpTo[last]) {
                return NONE;
            }
            int without = leastSet(last - 1, many, open);
            if (without != NONE) {
                return without;
            }
            int with = leastSet(last - 1, many - 1, open & ~reach[last]);
            return with == NONE ? NONE : with | 1 << last;
        }
    }

    /** The fewest men, and their LOADS. THINGS are due once or twice (by unlike men); nothing is due both ways. */
    private static final class Carriers {
        private final int[] secrets = new int[MOST_THINGS];
        private int each;
        private int dueOnce;
        private int dueTwice;

        int fewest(Lore lore, int wanted, int mostEach, boolean doubled) {
            System.arraycopy(lore.secrets, 0, secrets, 0, secrets.length);
            each = mostEach;
            dueOnce = doubled ? 0 : wanted;
            dueTwice = doubled ? wanted : 0;
            for (int men = 0; men < MOST_THINGS; men++) {
                if (canCarry(dueOnce, dueTwice, men)) {
                    return men;
                }
            }
            return MOST_THINGS;
        }

        int loadOf(int man, int men) {
            int load = NONE;
            for (int m = 0; m <= man && m < men; m++) {
                load = leastLoad(MOST_THINGS - 1, 0, men - 1 - m);
                if (load == NONE) {
                    return NONE;
                }
                dueOnce = dueOnce & ~load | dueTwice & load;
                dueTwice &= ~load;
            }
            return load;
        }

        /** Goes from the highest THING down, first without it: so the first load that is found is the least. */
        private int leastLoad(int t, int load, int others) {
            int decided = -1 << t + 1;
            int once = (dueOnce & ~load | dueTwice & load) & decided;
            int twice = dueTwice & ~load & decided;
            if (!canCarry(once, twice, others)) {
                return NONE;
            }
            if (t < 0) {
                return load;
            }
            int without = leastLoad(t - 1, load, others);
            if (without != NONE) {
                return without;
            }
            boolean mayCome = ((dueOnce | dueTwice) >> t & 1) != 0
                    && (secrets[t] & load) == 0 && Integer.bitCount(load) < each;
            return mayCome ? leastLoad(t - 1, load | 1 << t, others) : NONE;
        }

        private boolean canCarry(int once, int twice, int men) {
            int all = once | twice;
            if (all == 0) {
                return true;
            }
            if (men < (twice == 0 ? 1 : 2) || Integer.bitCount(once) + 2 * Integer.bitCount(twice) > men * each) {
                return false;
            }
            int hardest = hardestOf(all);
            int apart = Integer.bitCount(secrets[hardest] & all);
            // without secrets it can be dealt out man by man; and a graph whose degrees are below the number
            // of colours has a colouring with classes as even as can be (Hajnal and Szemeredi)
            if (apart == 0 || twice == 0 && apart < men) {
                return true;
            }
            return men > 1 && canDivide(once & ~easyOf(once, all), twice, men, hardest);
        }

        /** Some man carries the hardest THING: all his loads that are full are tried. */
        private boolean canDivide(int once, int twice, int men, int hardest) {
            int all = once | twice;
            int open = all & ~secrets[hardest] & ~(1 << hardest);
            int pick = open;
            // each turn makes it less, so there are no more turns than sets
            for (int turn = 0; turn <= open && pick >= 0; turn++) {
                int bad = tooMuchAt(pick);
                if (bad != NONE) {
                    pick = (pick >> bad << bad) - 1 & open;
                } else {
                    int load = pick | 1 << hardest;
                    if (isFull(load, all) && canCarry(once & ~load | twice & load, twice & ~load, men - 1)) {
                        return true;
                    }
                    pick = pick == 0 ? NONE : pick - 1 & open;
                }
            }
            return false;
        }

        private int hardestOf(int all) {
            int hardest = 0;
            int most = NONE;
            for (int t = 0; t < MOST_THINGS; t++) {
                int apart = Integer.bitCount(secrets[t] & all);
                if ((all >> t & 1) != 0 && apart > most) {
                    most = apart;
                    hardest = t;
                }
            }
            return hardest;
        }

        /** Those due once without a secret: they go wherever there is room, and how much there is, is known. */
        private int easyOf(int once, int all) {
            int easy = 0;
            for (int t = 0; t < MOST_THINGS; t++) {
                if ((once >> t & 1) != 0 && (secrets[t] & all) == 0) {
                    easy |= 1 << t;
                }
            }
            return easy;
        }

        /** The THING, from the highest down, with which these are too many or hold a secret. */
        private int tooMuchAt(int pick) {
            int taken = 0;
            for (int t = MOST_THINGS - 1; t >= 0; t--) {
                if ((pick >> t & 1) != 0) {
                    if ((secrets[t] & taken) != 0 || Integer.bitCount(taken) >= each - 1) {
                        return t;
                    }
                    taken |= 1 << t;
                }
            }
            return NONE;
        }

        /** A man with room can take from another one what is no secret with his, so only full loads need trying. */
        private boolean isFull(int load, int all) {
            if (Integer.bitCount(load) >= each) {
                return true;
            }
            for (int t = 0; t < MOST_THINGS; t++) {
                if (((all & ~load) >> t & 1) != 0 && (secrets[t] & load) == 0) {
                    return false;
                }
            }
            return true;
        }
    }

    /** The best row of at most three THINGS ahead: of sayings before a ROAD, or of QUESTIONS. */
    private static final class Ahead {
        private final Courier speaker = new Courier();
        private final Courier walker = new Courier();
        private final Courier way = new Courier();
        private final int[] row = new int[MOST_AHEAD];
        private final int[] best = new int[MOST_AHEAD];
        private int bestMany;
        private int bestSum;
        private int most;

        void chooseSayings(Lore lore, Courier one, int to) {
            way.begin(one.size);
            way.inn = one.inn;
            way.walk(lore, to);
            begin(one, MOST_AHEAD);
            sayOn(lore, one.held, 0);
        }

        void chooseQuestions(Lore lore, Courier one, int others, int q) {
            begin(one, q);
            askOn(lore, others, 0);
        }

        private void begin(Courier one, int mostAhead) {
            most = mostAhead;
            bestMany = 0;
            bestSum = NONE;
            speaker.likeMindOf(one);
        }

        /** A row with a THING that he has no more does as one without it, which is shorter: it is left out. */
        private void sayOn(Lore lore, int left, int depth) {
            walker.likeMindOf(speaker);
            walker.hearLatestOf(way);
            weigh(lore.worthOf(walker.held), depth);
            if (depth >= most || depth >= row.length) {
                return;
            }
            long mind = speaker.mind;
            int had = speaker.held;
            for (int t = 0; t < lore.things; t++) {
                if (((left & had) >> t & 1) != 0) {
                    row[depth] = t;
                    speaker.say(lore, t);
                    sayOn(lore, left & ~(1 << t), depth + 1);
                    speaker.setMind(mind, had);
                }
            }
        }

        private void askOn(Lore lore, int left, int depth) {
            weigh(lore.worthOf(speaker.held), depth);
            if (depth >= most || depth >= row.length) {
                return;
            }
            long mind = speaker.mind;
            int had = speaker.held;
            for (int t = 0; t < lore.things; t++) {
                if ((left >> t & 1) != 0) {
                    row[depth] = t;
                    speaker.hear(t);
                    askOn(lore, left & ~(1 << t), depth + 1);
                    speaker.setMind(mind, had);
                }
            }
        }

        /** Rows of one length come by THINGS, so the first of like ones stays. */
        private void weigh(int sum, int length) {
            if (sum > bestSum || sum == bestSum && length < bestMany) {
                bestSum = sum;
                bestMany = length;
                System.arraycopy(row, 0, best, 0, row.length);
            }
        }

        int answer(int what) {
            if (what == 0) {
                return bestSum;
            }
            if (what == 1) {
                return bestMany;
            }
            int k = what - FIRST_PLACE;
            return k >= 0 && k < bestMany && k < best.length ? best[k] : NONE;
        }
    }

    /** PIECES, and the shortest row that has them all. */
    private static final class Pieces {
        int many;
        private final int[] lengths = new int[MOST_PIECES];
        private final int[] things = new int[MOST_PIECES * MOST_IN_PIECE];
        /** Pair by pair, how much of the end of the one is the beginning of the other one. */
        private final int[] overlaps = new int[MOST_PIECES * MOST_PIECES];
        private final int[] row = new int[MOST_PIECES * MOST_IN_PIECE];
        final int[] best = new int[MOST_PIECES * MOST_IN_PIECE];
        int bestMany;

        void likeOf(Pieces other) {
            many = other.many;
            System.arraycopy(other.lengths, 0, lengths, 0, lengths.length);
            System.arraycopy(other.things, 0, things, 0, things.length);
        }

        int addOne(int[] from, int length) {
            if (many >= MOST_PIECES || length > MOST_IN_PIECE || length > from.length) {
                return TOO_MANY;
            }
            System.arraycopy(from, 0, things, many * MOST_IN_PIECE, length);
            lengths[many] = length;
            many++;
            return many;
        }

        private int thingOf(int i, int k) {
            return things[i * MOST_IN_PIECE + k];
        }

        int inThem() {
            int bits = 0;
            for (int i = 0; i < many; i++) {
                for (int k = 0; k < lengths[i]; k++) {
                    bits |= 1 << thingOf(i, k);
                }
            }
            return bits;
        }

        boolean areUnfit(int i, int j) {
            for (int t = 0; t < MOST_THINGS; t++) {
                for (int u = t + 1; u < MOST_THINGS; u++) {
                    if (isTurned(i, j, t, u)) {
                        return true;
                    }
                }
            }
            return false;
        }

        private boolean isTurned(int i, int j, int t, int u) {
            int tInOne = firstPlace(i, t);
            int uInOne = firstPlace(i, u);
            int tInOther = firstPlace(j, t);
            int uInOther = firstPlace(j, u);
            return tInOne != NONE && uInOne != NONE && tInOther != NONE && uInOther != NONE
                    && tInOne < uInOne != tInOther < uInOther;
        }

        private int firstPlace(int i, int t) {
            for (int k = 0; k < lengths[i]; k++) {
                if (thingOf(i, k) == t) {
                    return k;
                }
            }
            return NONE;
        }

        void join() {
            bestMany = 0;
            int due = 0;
            for (int i = 0; i < many; i++) {
                bestMany += lengths[i];
                if (!isWithinAnother(i)) {
                    due |= 1 << i;
                }
                for (int j = 0; j < many; j++) {
                    overlaps[i * MOST_PIECES + j] = overlapOf(i, j);
                }
            }
            // above the length of any row, so that the first one is taken
            bestMany++;
            joinOn(due, NONE, 0, 0);
        }

        private boolean isWithinAnother(int i) {
            for (int j = 0; j < many; j++) {
                boolean smaller = lengths[i] < lengths[j] || lengths[i] == lengths[j] && j < i;
                for (int from = 0; smaller && from + lengths[i] <= lengths[j]; from++) {
                    if (isSame(j, from, i, lengths[i])) {
                        return true;
                    }
                }
            }
            return false;
        }

        private int overlapOf(int i, int j) {
            for (int n = Math.min(lengths[i], lengths[j]); n > 0; n--) {
                if (isSame(i, lengths[i] - n, j, n)) {
                    return n;
                }
            }
            return 0;
        }

        /** Whether one, from a place on, goes on as the other one begins. */
        private boolean isSame(int one, int from, int other, int n) {
            for (int k = 0; k < n; k++) {
                if (thingOf(one, from + k) != thingOf(other, k)) {
                    return false;
                }
            }
            return true;
        }

        /** In a shortest row the PIECES that are in no other one follow each other with all the overlap there is. */
        private void joinOn(int due, int latest, int length, int depth) {
            if (length > bestMany || depth > MOST_PIECES) {
                return;
            }
            if (due == 0) {
                if (length < bestMany || isFirstByThings(length)) {
                    bestMany = length;
                    System.arraycopy(row, 0, best, 0, row.length);
                }
                return;
            }
            for (int i = 0; i < many; i++) {
                if ((due >> i & 1) != 0) {
                    int overlap = latest == NONE ? 0 : overlaps[latest * MOST_PIECES + i];
                    int more = Math.min(lengths[i] - overlap, row.length - length);
                    System.arraycopy(things, i * MOST_IN_PIECE + overlap, row, length, more);
                    joinOn(due & ~(1 << i), i, length + more, depth + 1);
                }
            }
        }

        private boolean isFirstByThings(int length) {
            for (int k = 0; k < length; k++) {
                if (row[k] != best[k]) {
                    return row[k] < best[k];
                }
            }
            return false;
        }
    }
}
