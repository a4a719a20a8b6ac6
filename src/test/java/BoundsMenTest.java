/** Promises 31 to 38 and their terms: each sentence that names a boundary has a test of its own. */
public final class BoundsMenTest {
    private static final int[] FAR = {-1, Integer.MIN_VALUE, Integer.MAX_VALUE, 32};

    public static void main(String[] args) {
        setsWithOthers();
        backAndItself();
        seedsFewest();
        seedsLeast();
        menOneToNine();
        menWithSecrets();
        menDoubled();
        menRefused();
        loadsLeast();
        loadsOfSuchMen();
        roadRows();
        roadOfLikeOnes();
        roadStillHasIt();
        roadRefused();
        questionRows();
        questionsOfLikeOnes();
        questionsWherever();
        questionsRefused();
        asked();
        broken();
        brokenOfSix();
        brokenRefused();
        Check.end("BoundsMenTest");
    }

    /** All calls that take a set, with one that has others. */
    private static void refuses(String sentence, NineInMind x, int set) {
        Check.promise(31, "-3: " + sentence, -3, x.back(set));
        Check.promise(32, "-3: " + sentence, -3, x.seeds(set));
        Check.promise(33, "-3: " + sentence, -3, x.men(set, 3, false));
        Check.promise(33, "-3: " + sentence + ", doubled", -3, x.men(set, 3, true));
        Check.promise(34, "-3: " + sentence, -3, x.load(set, 3, false, 0));
        Check.promise(34, "-3: " + sentence + ", doubled", -3, x.load(set, 3, true, 0));
        Check.promise(34, "-3: " + sentence + ", no such man", -3, x.load(set, 3, false, -1));
        Check.promise(37, "-3: " + sentence, -3, x.asked(set));
        Check.promise(38, "-3: " + sentence, -3, x.broken(0, set));
    }

    private static void setsWithOthers() {
        NineInMind x = Check.with("things 6;", 2);
        refuses("the THING behind the last", x, 64);
        refuses("the THING behind the last and THINGS", x, 127);
        x = Check.with("things 16;", 2);
        refuses("16 of 16 THINGS", x, 1 << 16);
        refuses("bit 30", x, 1 << 30);
        refuses("bit 31", x, Integer.MIN_VALUE);
        refuses("below 0", x, -1);
        refuses("the greatest", x, Integer.MAX_VALUE);
        x = new NineInMind();
        Check.promise(31, "-3: without THINGS", -3, x.back(1));
        Check.promise(32, "-3: without THINGS", -3, x.seeds(1));
        Check.promise(33, "-3: without THINGS", -3, x.men(1, 1, false));
        Check.promise(34, "-3: without THINGS", -3, x.load(1, 1, false, 0));
        Check.promise(37, "-3: without THINGS", -3, x.asked(1));
        Check.promise(31, "a set of none without THINGS", 0, x.back(0));
        Check.promise(32, "a set of none without THINGS", 0, x.seeds(0));
        Check.promise(33, "a set of none without THINGS", 0, x.men(0, 1, true));
        Check.promise(34, "NONE: a set of none without THINGS", -1, x.load(0, 1, true, 0));
        Check.promise(37, "a set of none without COURIERS", 0, x.asked(0));
        Check.promise(38, "-2: without COURIERS", -2, x.broken(0, 0));
    }

    // ---- promises 31 and 32

    private static void backAndItself() {
        NineInMind x = Check.with("things 16;rhyme 0 15;rhyme 15 14;rhyme 14 0;rhyme 13 12;");
        Check.promise(31, "from a set of none", 0, x.back(0));
        Check.promise(31, "itself, where nothing rhymes", 1 << 5, x.back(1 << 5));
        Check.promise(31, "and so on, in a ring", 0xc001, x.back(1));
        Check.promise(31, "and so on, from its last", 0xc001, x.back(1 << 14));
        Check.promise(31, "a rhyme goes one way", 1 << 12, x.back(1 << 12));
        Check.promise(31, "from all of them", 0xffff, x.back(0xffff));
        StringBuilder s = new StringBuilder("things 16;");
        for (int t = 0; t < 15; t++) {
            s.append("rhyme ").append((t * 7 + 7) % 16).append(' ').append(t * 7 % 16).append(';');
        }
        Check.promise(31, "and so on, 15 times", 0xffff, Check.with(s.toString()).back(1 << 15 * 7 % 16));
    }

    private static void seedsFewest() {
        NineInMind x = Check.with("things 16;rhyme 15 0;rhyme 15 1;rhyme 0 15;");
        Check.promise(32, "none wanted", 0, x.seeds(0));
        Check.promise(32, "one wanted, from itself", 4, x.seeds(4));
        Check.promise(32, "from one that isn't wanted", 1, x.seeds(2 | 1 << 15));
        Check.promise(32, "the fewest for all", 0x7ffd, x.seeds(0xffff));
        x = Check.with("things 16;");
        Check.promise(32, "without rhymes all of them", 0xffff, x.seeds(0xffff));
        Check.promise(32, "without rhymes what is wanted", 0x8001, x.seeds(0x8001));
        x = Check.with("things 1;");
        Check.promise(32, "one THING", 1, x.seeds(1));
        Check.promise(32, "none wanted of one THING", 0, x.seeds(0));
    }

    private static void seedsLeast() {
        NineInMind x = Check.with("things 6;rhyme 4 0;rhyme 4 1;rhyme 3 0;rhyme 3 1;rhyme 5 2;");
        Check.promise(32, "of like ones the least as bits", 8, x.seeds(3));
        Check.promise(32, "two, of like ones the least as bits", 12, x.seeds(7));
        x = Check.with("things 4;rhyme 3 0;rhyme 3 1;");
        Check.promise(32, "fewest ahead of least", 8, x.seeds(3));
        x = Check.with("things 16;rhyme 6 0;rhyme 6 1;rhyme 6 2;rhyme 7 3;rhyme 7 4;rhyme 8 5;rhyme 15 3;rhyme 15 4;rhyme 15 5;");
        Check.promise(32, "fewest ahead of least: two, though three are less", 1 << 15 | 1 << 6, x.seeds(63));
    }

    // ---- promises 33 and 34

    private static void loads(String sentence, NineInMind x, int wanted, int each, boolean doubled, int... due) {
        Check.promise(33, sentence, due.length, x.men(wanted, each, doubled));
        for (int man = 0; man < due.length; man++) {
            Check.promise(34, sentence + ", man " + man, due[man], x.load(wanted, each, doubled, man));
        }
        Check.promise(34, "NONE: there is no such man, " + sentence, -1, x.load(wanted, each, doubled, due.length));
    }

    private static void menOneToNine() {
        NineInMind x = Check.with("things 16;");
        loads("none wanted", x, 0, 1, false);
        loads("none wanted", x, 0, 9, true);
        int[] sixteen = new int[16];
        for (int t = 0; t < 16; t++) {
            sixteen[t] = 1 << t;
        }
        loads("each carries 1 at most", x, 0xffff, 1, false, sixteen);
        loads("each carries 8 at most", x, 0xffff, 8, false, 0xff, 0xff00);
        loads("each carries 9 at most", x, 0xffff, 9, false, 0x7f, 0xff80);
        loads("nine by one man", x, 0x1ff, 9, false, 0x1ff);
        loads("ten by two men", x, 0x3ff, 9, false, 1, 0x3fe);
        loads("eight by two men", x, 0x1ff, 8, false, 1, 0x1fe);
        for (int each : new int[] {0, 10, -1, Integer.MIN_VALUE, Integer.MAX_VALUE}) {
            Check.promise(33, "-3: how many each carries, " + each, -3, x.men(1, each, false));
            Check.promise(33, "-3: how many each carries, though none is wanted", -3, x.men(0, each, true));
            Check.promise(34, "-3: how many each carries, " + each, -3, x.load(1, each, false, 0));
            Check.promise(34, "-3: how many each carries, no such man", -3, x.load(0, each, false, 5));
        }
    }

    private static void menWithSecrets() {
        NineInMind x = Check.with("things 4;secret 0 1;secret 0 2;secret 0 3;secret 1 2;secret 1 3;secret 2 3;");
        loads("each with each a secret", x, 15, 9, false, 1, 2, 4, 8);
        loads("each with each a secret, doubled", x, 15, 9, true, 1, 1, 2, 2, 4, 4, 8, 8);
        loads("two of them", x, 9, 9, false, 1, 8);
        x = Check.with("things 4;secret 0 1;");
        loads("no secret within one man's LOAD", x, 3, 2, false, 1, 2);
        loads("the other one isn't wanted", x, 13, 9, false, 13);
        loads("both and others", x, 15, 9, false, 1, 14);
        loads("both and others, two each", x, 15, 2, false, 5, 10);
        x = Check.with("things 5;secret 0 1;secret 1 2;secret 2 3;secret 3 4;secret 4 0;");
        loads("a ring of five", x, 0x1f, 9, false, 1, 10, 20);
        loads("a ring of five, two each", x, 0x1f, 2, false, 1, 10, 20);
        loads("a ring of five, one each", x, 0x1f, 1, false, 1, 2, 4, 8, 16);
        loads("four of a ring of five", x, 0xf, 9, false, 5, 10);
        loads("a ring of five, doubled", x, 0x1f, 9, true, 5, 9, 10, 18, 20);
        // whoever carries 0 carries none of 1, 2, 3, and so on: two men would have five and three
        x = Check.with("things 8;secret 0 1;secret 0 2;secret 0 3;secret 1 4;secret 1 5;secret 2 6;secret 3 7;");
        loads("five and three", x, 0xff, 5, false, 0xe, 0xf1);
        loads("five are too many for one", x, 0xff, 4, false, 1, 0xe, 0xf0);
        StringBuilder s = new StringBuilder("things 16;");
        for (int t = 0; t < 16; t += 2) {
            s.append("secret ").append(t).append(' ').append(t + 1).append(';');
        }
        loads("two sides", Check.with(s.toString()), 0xffff, 8, false, 0x5555, 0xaaaa);
    }

    private static void menDoubled() {
        NineInMind x = Check.with("things 16;secret 14 15;");
        loads("one THING by two unlike men", x, 1, 9, true, 1, 1);
        loads("two by two unlike men", x, 3, 2, true, 3, 3);
        loads("two, one each", x, 3, 1, true, 1, 1, 2, 2);
        loads("both of a secret", x, 0xc000, 9, true, 1 << 14, 1 << 14, 1 << 15, 1 << 15);
        loads("8 THINGS", x, 0xff, 9, true, 0xff, 0xff);
        loads("8 THINGS, the greatest but one", x, 0x7f80, 8, true, 0x7f80, 0x7f80);
        // each twice are sixteen, and two men carry fourteen of these
        loads("8 THINGS, seven each", x, 0xff, 7, true, 3, 0xfd, 0xfe);
    }

    private static void menRefused() {
        NineInMind x = Check.with("things 16;");
        Check.promise(33, "-4: doubled, 9 THINGS", -4, x.men(0x1ff, 9, true));
        Check.promise(34, "-4: doubled, 9 THINGS", -4, x.load(0x1ff, 9, true, 0));
        Check.promise(34, "-4: doubled, no such man", -4, x.load(0x1ff, 9, true, -1));
        Check.promise(33, "-4: doubled, all THINGS", -4, x.men(0xffff, 9, true));
        Check.promise(33, "9 THINGS, not doubled", 1, x.men(0x1ff, 9, false));
        Check.promise(33, "8 THINGS, doubled", 2, x.men(0xff, 9, true));
        Check.promise(33, "-3 ahead of -4: how many each carries", -3, x.men(0x1ff, 0, true));
        Check.promise(33, "-3 ahead of -4: a set with others", -3, x.men(0x101ff, 9, true));
        Check.promise(34, "-3 ahead of -4: how many each carries", -3, x.load(0x1ff, 10, true, 0));
        Check.promise(34, "-3 ahead of -4: a set with others", -3, x.load(0x101ff, 9, true, 0));
    }

    private static void loadsLeast() {
        NineInMind x = Check.with("things 6;secret 4 0;secret 4 1;secret 5 2;secret 5 3;");
        loads("the least with which the others can do with one man fewer", x, 0x3f, 9, false, 0xf, 0x30);
        loads("0 to 3 are too many for one", x, 0x3f, 3, false, 0x1c, 0x23);
        loads("one by one likewise", x, 0x3f, 2, false, 3, 0xc, 0x30);
        x = Check.with("things 5;");
        loads("man 1's likewise for what is left", x, 0x1f, 3, false, 3, 0x1c);
    }

    private static void loadsOfSuchMen() {
        NineInMind x = Check.with("things 5;");
        for (int man : new int[] {-1, 2, 3, 16, 31, 32, Integer.MIN_VALUE, Integer.MAX_VALUE}) {
            Check.promise(34, "NONE: there is no man " + man, -1, x.load(0x1f, 3, false, man));
            Check.promise(34, "NONE: there is no man " + man + ", doubled", -1, x.load(0x1f, 5, true, man));
            Check.promise(34, "NONE: none is wanted, man " + man, -1, x.load(0, 3, false, man));
        }
        Check.promise(34, "NONE: none is wanted, man 0", -1, x.load(0, 3, false, 0));
    }

    // ---- promise 35

    private static void road(String sentence, NineInMind x, int inn, int sum, int... row) {
        Check.promise(35, sentence + ", the sum", sum, x.road(0, inn, 0));
        Check.promise(35, sentence + ", how many he SAYS ahead", row.length, x.road(0, inn, 1));
        for (int k = 0; k < 3; k++) {
            Check.promise(35, k < row.length ? sentence + ", the k-th of these" : sentence + ", NONE: not so many",
                    k < row.length ? row[k] : -1, x.road(0, inn, 10 + k));
        }
    }

    private static void roadRows() {
        NineInMind x = Check.with("things 12;worth 0 30;worth 1 20;worth 2 10;worth 3 5;inn;inn 8 9 10;inn 11;", 6);
        road("nothing in MIND", x, 0, 0);
        road("nothing in MIND but NEWS", x, 1, 3);
        x.walks(0, 2);
        Check.promise(35, "from the last INN to itself: 8, 9, 10 and 11", 4, x.road(0, 2, 0));
        Check.hear(x, 0, 4, 5, 6);
        // 6 5 4 11 10 9: 8 comes anew, and 9 and 10 come again
        Check.promise(35, "from the last INN back: not the NEWS of the last one", 6, x.road(0, 1, 0));
        x = Check.with("things 12;worth 0 30;worth 1 20;worth 2 10;worth 3 5;worth 11 50;inn;inn 8 9 10;inn 11;", 1, 6);
        x.walks(0, 1);
        Check.promise(35, "from an INN in the middle back to the first", 1, x.road(0, 0, 0));
        Check.promise(35, "from an INN in the middle on to the last", 50, x.road(0, 2, 0));
        x.hears(0, 0);
        Check.promise(35, "to the INN in the middle where he is: no NEWS", 30, x.road(0, 1, 0));
        Check.promise(35, "back to the first, which has none", 30, x.road(0, 0, 0));
        x = Check.with("things 12;worth 0 30;worth 1 20;worth 2 10;worth 3 5;inn;inn 8 9 10;inn 11;", 6);
        Check.hear(x, 0, 3, 2, 1, 0, 4, 5);
        road("to where he is", x, 0, 67);
        // 5 4 0 1 2 3: three are driven out; 1 2 3 should stay
        road("three are SAID", x, 1, 3 + 60, 0, 1, 2);
        // four are driven out: two stay of those
        road("two are SAID", x, 2, 4 + 50, 0, 1);
        Check.promise(35, "his MIND stays", 0x1540123, Check.mind(x, 0));
        Check.promise(35, "his INN stays", 0, x.of(0, 1));
        Check.promise(35, "nothing is LOST", 0, x.of(0, 5));
        x = Check.with("things 8;worth 7 50;inn;inn 0 1 2;", 7);
        Check.hear(x, 0, 7, 6, 5, 4, 3, 2, 1);
        // 1 2 3 4 5 6 7, and 0 comes anew: the last one is driven out
        road("one is SAID", x, 1, 56, 7);
        x = Check.with("things 9;worth 5 50;worth 6 50;worth 7 50;inn;inn 0 1 2 3;", 7);
        Check.hear(x, 0, 7, 6, 5, 8);
        // 8 5 6 7: the last one is driven out, which is 8 if the three others are SAID
        road("a row of 3", x, 1, 154, 5, 6, 7);
        x = Check.with("things 9;worth 4 50;worth 5 50;worth 6 50;worth 7 50;inn;inn 0 1 2 3;", 8);
        Check.hear(x, 0, 7, 6, 5, 4, 8);
        // 8 4 5 6 7: four would have to be SAID
        road("a row of at most 3", x, 1, 155);
    }

    private static void roadOfLikeOnes() {
        NineInMind x = Check.with("things 6;inn;inn 5;", 3);
        Check.hear(x, 0, 0, 1, 2);
        road("of like rows the shortest", x, 1, 3);
        x = Check.with("things 6;worth 0 7;worth 1 7;worth 2 7;inn;inn 4 5;", 3);
        Check.hear(x, 0, 2, 1, 0);
        road("then none, for each is worth the same", x, 1, 9);
        x = Check.with("things 6;worth 0 7;worth 1 7;worth 3 0;inn;inn 4 5;", 3);
        Check.hear(x, 0, 1, 0, 3);
        road("then the first by THINGS", x, 1, 9, 0);
        x = Check.with("things 6;worth 0 7;worth 1 7;worth 3 0;inn;inn 4;", 3);
        Check.hear(x, 0, 1, 0, 3);
        // 3 0 1: only if both are SAID, 3 is the one that goes
        road("both are SAID, the first by THINGS", x, 1, 15, 0, 1);
    }

    private static void roadStillHasIt() {
        NineInMind x = Check.with("things 8;worth 6 40;worth 7 40;rhyme 0 6;rhyme 1 7;inn;inn;", 3);
        Check.hear(x, 0, 1, 0, 2);
        // 2 0 1. 0: 6 0 2, and 1 is gone. 1: 7 1 2, and 0 is gone. 6 and 7 are none of those he has now
        road("each if he still has it then", x, 0, 42, 0);
        Check.hear(x, 0, 1, 0);
        road("both rhymes", x, 1, 81, 0, 1);
    }

    private static void roadRefused() {
        NineInMind x = Check.with("things 4;inn;inn;", 2);
        for (int far : FAR) {
            Check.promise(35, "-2: no COURIER " + far, -2, x.road(far, 0, 0));
            Check.promise(35, "-2: no INN " + far, -2, x.road(0, far, 0));
        }
        Check.promise(35, "-2: the COURIER behind the last", -2, x.road(1, 0, 0));
        Check.promise(35, "-2: the INN behind the last", -2, x.road(0, 2, 0));
        for (int what : new int[] {2, 3, 9, 13, 14, -1, Integer.MIN_VALUE, Integer.MAX_VALUE}) {
            Check.promise(35, "-2: what (10 to 12), " + what, -2, x.road(0, 0, what));
        }
        Check.promise(35, "-2: there are no INNS", -2, Check.with("things 4;", 2).road(0, 0, 0));
    }

    // ---- promise 36

    private static void questions(String sentence, NineInMind x, int q, int sum, int... row) {
        Check.promise(36, sentence + ", the sum", sum, x.questions(0, 1, q, 0));
        Check.promise(36, sentence + ", how many", row.length, x.questions(0, 1, q, 1));
        for (int k = 0; k < 3; k++) {
            Check.promise(36, k < row.length ? sentence + ", the k-th of these" : sentence + ", NONE: not so many",
                    k < row.length ? row[k] : -1, x.questions(0, 1, q, 10 + k));
        }
    }

    private static void questionRows() {
        NineInMind x = Check.with("things 8;worth 4 40;worth 5 50;worth 6 60;worth 7 70;rhyme 4 3;", 9, 4);
        questions("both have nothing", x, 3, 0);
        x.hears(0, 0);
        questions("that one has nothing", x, 3, 1);
        Check.hear(x, 1, 7, 6, 5, 4);
        questions("q is 0", x, 0, 1);
        questions("q is 1", x, 1, 71, 7);
        questions("q is 2", x, 2, 131, 6, 7);
        questions("q is 3", x, 3, 181, 5, 6, 7);
        Check.promise(36, "his MIND stays", 0x10, Check.mind(x, 0));
        Check.promise(36, "the other's MIND stays", 0x14567, Check.mind(x, 1));
        x = Check.with("things 8;worth 4 40;", 1, 4);
        Check.hear(x, 0, 4);
        Check.hear(x, 1, 5, 6, 7);
        questions("no question is best", x, 3, 40);
        x = Check.with("things 16;", 9, 9);
        Check.hear(x, 1, 15, 0);
        questions("that one has the first THING and the last", x, 3, 2, 0, 15);
    }

    private static void questionsOfLikeOnes() {
        NineInMind x = Check.with("things 8;worth 5 9;worth 6 9;worth 7 9;", 1, 9);
        Check.hear(x, 1, 5, 7, 6);
        questions("of like rows the shortest, then the first by THINGS", x, 3, 9, 5);
        x = Check.with("things 8;worth 5 9;worth 6 9;worth 7 9;", 2, 9);
        Check.hear(x, 0, 7, 0);
        Check.hear(x, 1, 7, 6, 5);
        questions("one drives out one of like worth", x, 1, 10);
        questions("two in order", x, 2, 18, 5, 6);
        questions("the third is of no use", x, 3, 18, 5, 6);
        Check.hear(x, 0, 0, 7);
        questions("he has one, and it stays", x, 1, 18, 5);
    }

    private static void questionsWherever() {
        NineInMind x = Check.with("things 8;worth 5 9;rhyme 5 6;inn;inn;", 9, 9);
        x.hears(1, 5);
        x.walks(1, 1);
        questions("another one (wherever)", x, 3, 9, 5);
        Check.promise(36, "he HEARS it, and nothing that rhymes", 9, x.questions(0, 1, 1, 0));
    }

    private static void questionsRefused() {
        NineInMind x = Check.with("things 4;", 2, 2);
        for (int far : FAR) {
            Check.promise(36, "-2: no COURIER " + far, -2, x.questions(far, 1, 0, 0));
            Check.promise(36, "-2: no other one " + far, -2, x.questions(0, far, 0, 0));
            Check.promise(36, "-3: q " + far, -3, x.questions(0, 1, far, 0));
            Check.promise(36, "-2 ahead of -3: no COURIER " + far, -2, x.questions(far, 1, 4, 0));
        }
        Check.promise(36, "-2: the COURIER behind the last", -2, x.questions(2, 1, 0, 0));
        Check.promise(36, "-2: the other one behind the last", -2, x.questions(0, 2, 0, 0));
        Check.promise(36, "-2: both one", -2, x.questions(1, 1, 0, 0));
        Check.promise(36, "-3: q is 4", -3, x.questions(0, 1, 4, 0));
        Check.promise(36, "-2 ahead of -3: both one", -2, x.questions(1, 1, 4, 0));
        for (int what : new int[] {2, 3, 9, 13, 14, -1, Integer.MIN_VALUE, Integer.MAX_VALUE}) {
            Check.promise(36, "-2: what (10 to 12), " + what, -2, x.questions(0, 1, 0, what));
            Check.promise(36, "-2 ahead of -3: what, " + what, -2, x.questions(0, 1, 4, what));
        }
    }

    // ---- promises 37 and 38

    private static void asked() {
        NineInMind x = Check.with("things 16;");
        Check.promise(37, "there are no COURIERS", 0, x.asked(0xffff));
        for (int c = 0; c < 6; c++) {
            x.comes(9);
        }
        Check.promise(37, "none holds anything", 0, x.asked(0xffff));
        x.hears(5, 15);
        Check.promise(37, "the last COURIER", 32, x.asked(0xffff));
        Check.promise(37, "none wanted", 0, x.asked(0));
        Check.promise(37, "what none holds isn't asked for", 0, x.asked(0x7fff));
        for (int c = 0; c < 5; c++) {
            x.hears(c, c);
        }
        Check.promise(37, "all six", 63, x.asked(0xffff));
        Check.hear(x, 4, 0, 1, 2);
        Check.promise(37, "the fewest", 16, x.asked(7));
        Check.hear(x, 3, 0, 1, 2, 15);
        Check.promise(37, "of like ones the least as bits", 8, x.asked(7));
        Check.promise(37, "fewest ahead of least", 8, x.asked(0x8007));
        Check.promise(37, "two of six", 24, x.asked(0xffff));
    }

    private static void broken() {
        NineInMind x = Check.with("things 16;", 9, 9, 9);
        Check.promise(38, "none holds anything", 0, x.broken(0, 0xffff));
        Check.hear(x, 0, 0, 15, 7);
        Check.promise(38, "wanted THINGS that he alone holds", 0x8081, x.broken(0, 0xffff));
        Check.hear(x, 2, 7, 3);
        Check.promise(38, "another one holds it, too", 0x8001, x.broken(0, 0xffff));
        Check.promise(38, "the last COURIER", 8, x.broken(2, 0xffff));
        Check.promise(38, "he holds nothing", 0, x.broken(1, 0xffff));
        Check.promise(38, "none wanted", 0, x.broken(0, 0));
        Check.promise(38, "wanted alone", 1 << 15, x.broken(0, 0xfffe));
    }

    private static void brokenOfSix() {
        NineInMind x = Check.with("things 16;", 9, 9, 9, 9, 9, 9);
        for (int c = 0; c < 6; c++) {
            Check.hear(x, c, c, 15);
        }
        for (int c = 0; c < 6; c++) {
            Check.promise(38, "of six, " + c, 1 << c, x.broken(c, 0xffff));
        }
        Check.tell(x, "things 16;");
        x.comes(9);
        Check.hear(x, 0, 1, 15);
        Check.promise(38, "of one alone: those of another LORE are gone", 0x8002, x.broken(0, 0xffff));
        Check.promise(37, "of one alone: those of another LORE are gone", 1, x.asked(0xffff));
    }

    private static void brokenRefused() {
        NineInMind x = Check.with("things 4;", 2);
        for (int far : FAR) {
            Check.promise(38, "-2: no COURIER " + far, -2, x.broken(far, 0));
            Check.promise(38, "-2 ahead of -3: no COURIER " + far, -2, x.broken(far, 16));
        }
        Check.promise(38, "-2: the COURIER behind the last", -2, x.broken(1, 0));
        Check.promise(38, "-2 ahead of -3: the COURIER behind the last", -2, x.broken(1, 16));
    }
}
