/** Promises 7 to 19 and the terms of COURIERS: each sentence that names a boundary has a test of its own. */
public final class BoundsCouriersTest {
    private static final int[] FAR = {-1, Integer.MIN_VALUE, Integer.MAX_VALUE, 32};
    private static final String FIVE_INNS = "inn 0;inn 1;inn 2;inn 3;inn 4 5;";

    public static void main(String[] args) {
        comesUpToSix();
        comesUpToMind();
        comesRefusedInOrder();
        comesEmpty();
        ofEachWhat();
        ofItsMind();
        ofRefused();
        lostNever();
        lostLast();
        lostRefused();
        hearsUpToHisSize();
        hearsWhatHeHas();
        hearsRefused();
        saysToTheFront();
        saysRhymes();
        saysRefused();
        tellsAnotherOne();
        tellsRefused();
        walksThatWay();
        walksNowhere();
        walksRefused();
        recites();
        recitesRefused();
        delivers();
        deliversRefused();
        breach();
        risk();
        riskRefused();
        loud();
        loudRefused();
        turned();
        turnedRefused();
        Check.end("BoundsCouriersTest");
    }

    // ---- promise 7

    private static void comesUpToSix() {
        NineInMind x = Check.with("things 4;");
        for (int c = 0; c < 6; c++) {
            Check.promise(7, "his number: as they come", c, x.comes(1));
        }
        Check.promise(7, "-4: there are 6", -4, x.comes(1));
        Check.promise(7, "-4, and there are still 6", 6, x.count(3));
        Check.promise(7, "no COURIER 6", -2, x.of(6, 0));
        Check.tell(x, "things 4;");
        Check.promise(7, "with a new LORE the first is 0 again", 0, x.comes(1));
    }

    private static void comesUpToMind() {
        for (int mind = 1; mind <= 9; mind++) {
            NineInMind x = Check.with("things 1;mind " + mind + ";");
            Check.promise(7, "-3: the SIZE is 0", -3, x.comes(0));
            Check.promise(7, "-3: the SIZE is above mind " + mind, -3, x.comes(mind + 1));
            Check.promise(7, "SIZE 1", 0, x.comes(1));
            Check.promise(7, "a SIZE of mind " + mind, 1, x.comes(mind));
            Check.promise(7, "refused ones don't come", 2, x.count(3));
        }
        NineInMind x = Check.with("things 16;");
        Check.promise(7, "mind is 9 without: SIZE 9", 0, x.comes(9));
        Check.promise(7, "mind is 9 without: SIZE 10", -3, x.comes(10));
        for (int size : new int[] {-1, Integer.MIN_VALUE, Integer.MAX_VALUE}) {
            Check.promise(7, "-3: the SIZE " + size, -3, x.comes(size));
        }
    }

    private static void comesRefusedInOrder() {
        NineInMind x = new NineInMind();
        Check.promise(7, "-5: no THINGS", -5, x.comes(1));
        Check.promise(7, "-5 ahead of -3: 0", -5, x.comes(0));
        Check.promise(7, "-5 ahead of -3: 10", -5, x.comes(10));
        x = Check.with("things 1;", 1, 1, 1, 1, 1, 1);
        Check.promise(7, "-4 ahead of -3: 0", -4, x.comes(0));
        Check.promise(7, "-4 ahead of -3: 10", -4, x.comes(10));
        Check.promise(7, "-4 ahead of -3: below 0", -4, x.comes(Integer.MIN_VALUE));
    }

    private static void comesEmpty() {
        NineInMind x = Check.with("things 4;mind 3;inn 1;inn 2;", 2);
        Check.hear(x, 0, 1, 2, 3);
        x.walks(0, 1);
        x.comes(3);
        int[] due = {3, 0, 0, 0, 0, 0};
        for (int what = 0; what < due.length; what++) {
            Check.promise(7, "he comes to INN 0 with nothing in MIND, what " + what, due[what], x.of(1, what));
        }
        Check.tell(x, "things 4;");
        x.comes(2);
        Check.promise(7, "a number that was another's: nothing in MIND", 0, x.of(0, 3));
        Check.promise(7, "a number that was another's: INN 0", 0, x.of(0, 1));
        Check.promise(7, "a number that was another's: nothing LOST", 0, x.of(0, 5));
        Check.promise(9, "a number that was another's: he never did", -1, x.lost(0, 1));
    }

    // ---- promise 8

    private static void ofEachWhat() {
        NineInMind x = Check.with("things 16;worth 15 99;worth 0 0;inn;inn;", 3);
        x.walks(0, 1);
        Check.hear(x, 0, 4, 15, 0, 15);
        int[] due = {3, 1, 3, 1 << 15 | 1 << 4 | 1, 100, 0};
        for (int what = 0; what < due.length; what++) {
            Check.promise(8, "what " + what, due[what], x.of(0, what));
        }
        Check.hear(x, 0, 7, 8, 7, 4);
        Check.promise(8, "how many times he LOST one: each time counts", 3, x.of(0, 5));
        Check.promise(8, "how many he has: no more than his SIZE", 3, x.of(0, 2));
    }

    private static void ofItsMind() {
        NineInMind x = Check.with("things 16;", 9, 1);
        Check.promise(8, "-7: an empty MIND", -7, x.of(0, 10));
        for (int t = 0; t < 9; t++) {
            Check.promise(8, "-7: not so many", -7, x.of(0, 10 + t));
            x.hears(0, t);
            Check.promise(8, "the last", 0, x.of(0, 10 + t));
            Check.promise(8, "the latest first", t, x.of(0, 10));
        }
        Check.promise(8, "-7: behind a full MIND", -7, x.of(0, 19));
        Check.hear(x, 1, 3, 15);
        Check.promise(8, "a MIND of one", 15, x.of(1, 10));
        Check.promise(8, "-7: behind a MIND of one", -7, x.of(1, 11));
        for (int what : new int[] {20, 26, 41, 42, 1000, Integer.MAX_VALUE}) {
            Check.promise(8, "-7: far behind, " + what, -7, x.of(0, what));
        }
    }

    private static void ofRefused() {
        NineInMind x = Check.with("things 4;", 2, 2);
        Check.hear(x, 0, 1, 2);
        for (int what : new int[] {6, 7, 8, 9, -1, -2, Integer.MIN_VALUE}) {
            Check.promise(8, "-2: no such what " + what, -2, x.of(0, what));
        }
        for (int c : new int[] {-1, 2, 6, Integer.MIN_VALUE, Integer.MAX_VALUE}) {
            Check.promise(8, "-2: no COURIER " + c, -2, x.of(c, 0));
            Check.promise(8, "-2 ahead of -7: no COURIER " + c, -2, x.of(c, 19));
        }
    }

    // ---- promise 9

    private static void lostNever() {
        NineInMind x = Check.with("things 4;", 2);
        Check.promise(9, "NONE: he never did", -1, x.lost(0, 3));
        Check.hear(x, 0, 3, 2, 3);
        Check.promise(9, "NONE: he has it", -1, x.lost(0, 3));
        x.hears(0, 0);
        Check.promise(9, "NONE: another one was LOST", -1, x.lost(0, 3));
        Check.promise(9, "the one that was LOST, at INN 0 though there are none", 0, x.lost(0, 2));
    }

    private static void lostLast() {
        NineInMind x = Check.with("things 9;" + FIVE_INNS, 1);
        Check.hear(x, 0, 8, 7);
        Check.promise(9, "the INN in which he was", 0, x.lost(0, 8));
        x.hears(0, 8);
        Check.promise(9, "he has it again", 0, x.lost(0, 8));
        x.walks(0, 2);
        Check.promise(9, "the INN in which he was last", 1, x.lost(0, 8));
        Check.promise(9, "on the way", 2, x.lost(0, 1));
        Check.promise(9, "at an earlier time alone", 0, x.lost(0, 7));
        x.walks(0, 4);
        Check.promise(9, "within one INN", 4, x.lost(0, 4));
        x.hears(0, 1);
        x.hears(0, 2);
        Check.promise(9, "at the end of a way", 4, x.lost(0, 1));
    }

    private static void lostRefused() {
        NineInMind x = Check.with("things 4;", 1);
        for (int far : FAR) {
            Check.promise(9, "-2: no COURIER " + far, -2, x.lost(far, 0));
            Check.promise(9, "-2: no THING " + far, -2, x.lost(0, far));
        }
        Check.promise(9, "-2: the COURIER behind the last", -2, x.lost(1, 0));
        Check.promise(9, "-2: the THING behind the last", -2, x.lost(0, 4));
    }

    // ---- promise 10

    private static void hearsUpToHisSize() {
        for (int size = 1; size <= 9; size++) {
            NineInMind x = Check.with("things 16;", size);
            for (int t = 0; t < size; t++) {
                Check.promise(10, "NONE: there is room", -1, x.hears(0, t));
            }
            Check.promise(10, "SIZE at most", size, x.of(0, 2));
            for (int t = size; t < 16; t++) {
                Check.promise(10, "more than SIZE then: the last one", t - size, x.hears(0, t));
            }
            Check.promise(10, "still SIZE", size, x.of(0, 2));
            Check.promise(10, "it is at the front", 15, x.of(0, 10));
        }
    }

    private static void hearsWhatHeHas() {
        NineInMind x = Check.with("things 16;", 9);
        Check.hear(x, 0, 0, 1, 2, 3, 4, 5, 6, 7, 15);
        Check.promise(10, "NONE: he has it as the last", -1, x.hears(0, 0));
        Check.promise(10, "the others keep their order", 0x10f7654321L, Check.mind(x, 0));
        Check.promise(10, "NONE: he has it at the front", -1, x.hears(0, 0));
        Check.promise(10, "nothing moves", 0x10f7654321L, Check.mind(x, 0));
        Check.promise(10, "NONE: he has it in the middle", -1, x.hears(0, 5));
        Check.promise(10, "from where it was", 0x150f764321L, Check.mind(x, 0));
        x = Check.with("things 16;", 1);
        x.hears(0, 15);
        Check.promise(10, "NONE: a MIND of one has it", -1, x.hears(0, 15));
        Check.promise(10, "nothing LOST", 0, x.of(0, 5));
    }

    private static void hearsRefused() {
        NineInMind x = Check.with("things 4;", 1);
        x.hears(0, 2);
        for (int far : FAR) {
            Check.promise(10, "-2: no COURIER " + far, -2, x.hears(far, 0));
            Check.promise(10, "-2: no THING " + far, -2, x.hears(0, far));
        }
        Check.promise(10, "-2: the COURIER behind the last", -2, x.hears(1, 0));
        Check.promise(10, "-2: the THING behind the last", -2, x.hears(0, 4));
        Check.promise(10, "his MIND stays", 0x12, Check.mind(x, 0));
    }

    // ---- promise 11

    private static void saysToTheFront() {
        NineInMind x = Check.with("things 16;", 3);
        Check.hear(x, 0, 15, 1, 2);
        Check.promise(11, "without rhymes nothing is LOST", 0, x.says(0, 15));
        Check.promise(11, "it comes to the front", 0x1f21, Check.mind(x, 0));
        Check.promise(11, "it is at the front", 0, x.says(0, 15));
        Check.promise(11, "it stays at the front", 0x1f21, Check.mind(x, 0));
    }

    private static void saysRhymes() {
        String lore = "things 16;rhyme 5 15;rhyme 5 0;rhyme 5 3;rhyme 3 9;";
        NineInMind x = Check.with(lore, 9, 1, 2, 4);
        x.hears(0, 5);
        Check.promise(11, "there is room for what rhymes", 0, x.says(0, 5));
        Check.promise(11, "each by numbers, and these bring none of theirs", 0x1f305, Check.mind(x, 0));
        x.hears(1, 5);
        Check.promise(11, "SIZE 1: each drives out the one before", 3, x.says(1, 5));
        Check.promise(11, "SIZE 1: the greatest stays", 0x1f, Check.mind(x, 1));
        Check.hear(x, 2, 5, 0);
        Check.promise(11, "what rhymes and is there comes to the front", 2, x.says(2, 5));
        Check.promise(11, "SIZE 2", 0x1f3, Check.mind(x, 2));
        Check.hear(x, 3, 9, 5, 0);
        Check.promise(11, "one was LOST", 1, x.says(3, 5));
        Check.promise(11, "SIZE 4, the last one", 0x1f305, Check.mind(x, 3));
    }

    private static void saysRefused() {
        NineInMind x = Check.with("things 4;rhyme 0 1;", 2);
        x.hears(0, 1);
        Check.promise(11, "-5: he has it not", -5, x.says(0, 0));
        Check.promise(11, "-5: his MIND stays", 0x11, Check.mind(x, 0));
        Check.hear(x, 0, 2, 3);
        Check.promise(11, "-5: he LOST it", -5, x.says(0, 1));
        for (int far : FAR) {
            Check.promise(11, "-2: no COURIER " + far, -2, x.says(far, 0));
            Check.promise(11, "-2 ahead of -5: no THING " + far, -2, x.says(0, far));
        }
        Check.promise(11, "-2 ahead of -5: the COURIER behind the last", -2, x.says(1, 0));
        Check.promise(11, "-2 ahead of -5: the THING behind the last", -2, x.says(0, 4));
    }

    // ---- promise 12

    private static void tellsAnotherOne() {
        NineInMind x = Check.with("things 8;rhyme 0 1;rhyme 0 2;rhyme 7 0;", 2, 1, 9);
        Check.hear(x, 0, 5, 0);
        Check.hear(x, 1, 6);
        Check.promise(12, "LOST by both: 5, 0 and 6", 3, x.tells(0, 1, 0));
        Check.promise(12, "he has what rhymes", 0x121, Check.mind(x, 0));
        Check.promise(12, "the other one has what was said", 0x10, Check.mind(x, 1));
        Check.promise(12, "LOST by the other one alone", 1, x.tells(0, 1, 2));
        Check.promise(12, "LOST by none: the other one has it", 0, x.tells(0, 1, 2));
        Check.promise(12, "LOST by none: the other one has room", 0, x.tells(0, 2, 1));
        Check.promise(12, "he SAYS it: it comes to his front", 0x112, Check.mind(x, 0));
        Check.hear(x, 0, 7);
        Check.promise(12, "LOST by himself alone: 1", 1, x.tells(0, 2, 7));
        Check.promise(12, "he hears what rhymes, the other one doesn't", 0x107, Check.mind(x, 0));
        Check.promise(12, "the other one", 0x171, Check.mind(x, 2));
    }

    private static void tellsRefused() {
        NineInMind x = Check.with("things 4;rhyme 0 1;inn;inn;", 2, 2);
        x.hears(0, 0);
        x.hears(1, 3);
        for (int far : FAR) {
            Check.promise(12, "-2: no COURIER " + far, -2, x.tells(far, 0, 0));
            Check.promise(12, "-2: no other one " + far, -2, x.tells(0, far, 0));
            Check.promise(12, "-2 ahead of -5: no THING " + far, -2, x.tells(0, 1, far));
        }
        Check.promise(12, "-2: the COURIER behind the last", -2, x.tells(2, 0, 0));
        Check.promise(12, "-2: the other one behind the last", -2, x.tells(0, 2, 0));
        Check.promise(12, "-2: the THING behind the last", -2, x.tells(0, 1, 4));
        Check.promise(12, "-2: both one", -2, x.tells(0, 0, 0));
        Check.promise(12, "-2 ahead of -5: both one, he has it not", -2, x.tells(1, 1, 0));
        Check.promise(12, "-5: he has it not", -5, x.tells(0, 1, 3));
        x.walks(1, 1);
        Check.promise(12, "-5: the other one is elsewhere", -5, x.tells(0, 1, 0));
        Check.promise(12, "-5: his MIND stays", 0x10, Check.mind(x, 0));
        Check.promise(12, "-5: the other's MIND stays", 0x13, Check.mind(x, 1));
        x.walks(0, 1);
        Check.promise(12, "in the same INN, not the first", 0, x.tells(0, 1, 0));
    }

    // ---- promise 13

    private static void walksThatWay() {
        NineInMind x = Check.with("things 9;" + FIVE_INNS, 9, 2);
        Check.promise(13, "one INN on", 0, x.walks(0, 1));
        Check.promise(13, "NEWS of its end, not of its beginning", 0x11, Check.mind(x, 0));
        Check.promise(13, "one by one to the last", 0, x.walks(0, 4));
        Check.promise(13, "in each he HEARS its NEWS, in order", 0x154321, Check.mind(x, 0));
        Check.promise(13, "back to the first", 0, x.walks(0, 0));
        Check.promise(13, "the first one's NEWS, too", 0x1012354, Check.mind(x, 0));
        Check.promise(13, "he is there", 0, x.of(0, 1));
        Check.promise(13, "how many were LOST", 3, x.walks(1, 4));
        Check.promise(13, "from the last one back", 3, x.walks(1, 1));
        Check.promise(13, "what he has then", 0x112, Check.mind(x, 1));
        Check.promise(13, "he is there", 1, x.of(1, 1));
    }

    private static void walksNowhere() {
        NineInMind x = Check.with("things 2;inn 0;inn 1;", 2);
        Check.promise(13, "to the INN where he is", 0, x.walks(0, 0));
        Check.promise(13, "no NEWS there", 0, x.of(0, 2));
        x.walks(0, 1);
        x.hears(0, 0);
        Check.promise(13, "to the last INN, where he is", 0, x.walks(0, 1));
        Check.promise(13, "no NEWS there", 0x101, Check.mind(x, 0));
        x = Check.with("things 2;inn;inn;", 1);
        Check.promise(13, "INNS without NEWS", 0, x.walks(0, 1));
        Check.promise(13, "nothing in MIND", 0, x.of(0, 2));
    }

    private static void walksRefused() {
        NineInMind x = Check.with("things 2;inn 0;inn 1;", 2);
        for (int far : FAR) {
            Check.promise(13, "-2: no COURIER " + far, -2, x.walks(far, 0));
            Check.promise(13, "-2: no INN " + far, -2, x.walks(0, far));
        }
        Check.promise(13, "-2: the COURIER behind the last", -2, x.walks(1, 0));
        Check.promise(13, "-2: the INN behind the last", -2, x.walks(0, 2));
        Check.promise(13, "he stays", 0, x.of(0, 1));
        Check.promise(13, "-2: without INNS", -2, Check.with("things 2;", 2).walks(0, 0));
        x = Check.with("things 2;inn;inn;inn;inn;inn;inn;inn;inn;inn;inn 1;", 2);
        Check.promise(13, "the 10th INN", 0, x.walks(0, 9));
        Check.promise(13, "its NEWS", 0x11, Check.mind(x, 0));
        Check.promise(13, "-2: an 11th", -2, x.walks(0, 10));
    }

    // ---- promise 14

    private static void recites() {
        NineInMind x = Check.with("things 16;rhyme 0 3;rhyme 3 9;", 2);
        x.numbers(0, 0, 0);
        Check.promise(14, "a ROW of none", 0, x.recites(0, 0));
        Check.row(x, 0, 1, 0, 3);
        Check.promise(14, "with nothing in MIND all are passed over", 0, x.recites(0, 0));
        Check.hear(x, 0, 1, 0);
        // 1: 1 0. 0: 0 1, then 3: 3 0. 3: 3 0, then 9: 9 3
        Check.promise(14, "those that he has then, that came by a rhyme, too", 3, x.recites(0, 0));
        Check.promise(14, "what he has then", 0x193, Check.mind(x, 0));
        // 3: 3 9, 9 3. 0: not there. 9. 9 again
        Check.row(x, 0, 3, 0, 9, 9);
        Check.promise(14, "one that is there twice is SAID twice", 3, x.recites(0, 0));
        Check.row(x, 0, -1, 16, 99, Long.MIN_VALUE, Long.MAX_VALUE, (1L << 32) + 9, (1L << 63) + 9, 9);
        Check.promise(14, "numbers that are no THINGS are passed over", 1, x.recites(0, 0));
        x.numbers(0, 0, 40);
        Check.hear(x, 0, 1, 0);
        Check.promise(14, "a ROW of 40", 40, x.recites(0, 0));
    }

    private static void recitesRefused() {
        NineInMind x = Check.with("things 4;", 2);
        x.numbers(0, 0, 1);
        for (int far : FAR) {
            Check.promise(14, "-2: no COURIER " + far, -2, x.recites(far, 0));
            Check.promise(14, "-2: no ROW " + far, -2, x.recites(0, far));
        }
        Check.promise(14, "-2: the COURIER behind the last", -2, x.recites(1, 0));
        Check.promise(14, "-2: the ROW behind the last", -2, x.recites(0, 4));
        Check.promise(14, "-6: a ROW that is MISSING", -6, x.recites(0, 3));
        Check.promise(14, "-2 ahead of -6", -2, x.recites(1, 3));
    }

    // ---- promise 15

    private static void delivers() {
        NineInMind x = Check.with("things 16;rhyme 0 15;rhyme 0 9;rhyme 3 4;", 3, 1, 9);
        Check.promise(15, "with nothing in MIND", 0, x.delivers(0));
        Check.hear(x, 0, 0, 1, 2);
        // 0 is last: 0 2 1, then 9, 15: 15 9 0. 1 and 2: gone
        Check.promise(15, "from the last on, each if he still has it then", 1 | 1 << 9 | 1 << 15, x.delivers(0));
        Check.promise(15, "his MIND changes so", 0x1f90, Check.mind(x, 0));
        x.hears(1, 3);
        Check.promise(15, "SIZE 1: COURT has what rhymes, too", 1 << 3 | 1 << 4, x.delivers(1));
        Check.promise(15, "SIZE 1: he has the rhyme alone", 0x14, Check.mind(x, 1));
        Check.hear(x, 2, 1, 3);
        // 1, then 3 and 4 with it: 4 came after he began
        Check.promise(15, "THINGS he has now, as he begins", 1 << 1 | 1 << 3 | 1 << 4, x.delivers(2));
        Check.promise(15, "his MIND", 0x1431, Check.mind(x, 2));
        x = Check.with("things 16;rhyme 0 15;", 2);
        Check.hear(x, 0, 1, 0);
        // 1: 1 0. 0: 0 1, then 15: 15 0
        Check.promise(15, "the first of his MIND is SAID last", 3 | 1 << 15, x.delivers(0));
        Check.promise(15, "the first of his MIND is SAID last", 0x1f0, Check.mind(x, 0));
        x = Check.with("things 16;", 9);
        Check.hear(x, 0, 0, 1, 2, 3, 4, 5, 6, 7, 15);
        Check.promise(15, "a full MIND without rhymes", 0x80ff, x.delivers(0));
        Check.promise(15, "it is in order again", 0x1f76543210L, Check.mind(x, 0));
    }

    private static void deliversRefused() {
        NineInMind x = Check.with("things 4;", 2);
        for (int far : FAR) {
            Check.promise(15, "-2: no COURIER " + far, -2, x.delivers(far));
        }
        Check.promise(15, "-2: the COURIER behind the last", -2, x.delivers(1));
    }

    // ---- promise 16

    private static void breach() {
        NineInMind x = Check.with("things 16;secret 14 15;secret 3 1;secret 1 2;secret 0 4;", 4, 4, 4, 4, 4, 4);
        Check.promise(16, "NONE: none holds anything", -1, x.breach());
        x.hears(0, 14);
        x.hears(1, 15);
        Check.promise(16, "NONE: each holds one of both", -1, x.breach());
        Check.hear(x, 5, 15, 14);
        Check.promise(16, "1000 times the last COURIER, 20 times 14 and 15", 5000 + 20 * 14 + 15, x.breach());
        Check.hear(x, 4, 3, 1);
        Check.promise(16, "the first COURIER, the less of both ahead", 4000 + 23, x.breach());
        x.hears(4, 2);
        Check.promise(16, "the least such", 4000 + 22, x.breach());
        Check.hear(x, 0, 4, 0);
        Check.promise(16, "COURIER 0, THING 0", 4, x.breach());
        Check.promise(16, "NONE: without COURIERS", -1, Check.with("things 2;secret 0 1;").breach());
    }

    // ---- promise 17

    private static void risk() {
        NineInMind x = Check.with("things 5;secret 0 1;secret 2 3;", 2, 1);
        Check.promise(17, "0: an empty MIND", 0, x.risk(0, 0));
        x.hears(0, 0);
        Check.promise(17, "1: there is room for both", 1, x.risk(0, 1));
        Check.promise(17, "0: he has it, and not the other one", 0, x.risk(0, 0));
        x.hears(0, 4);
        Check.promise(17, "0: the other one is LOST by it", 0, x.risk(0, 1));
        x.hears(0, 0);
        Check.promise(17, "1: the other one stays", 1, x.risk(0, 1));
        Check.hear(x, 0, 1);
        Check.promise(17, "1: he holds both, and hears one of them", 1, x.risk(0, 0));
        Check.promise(17, "0: he holds both, and one is LOST by it", 0, x.risk(0, 4));
        x.hears(1, 2);
        Check.promise(17, "0: SIZE 1 never holds both", 0, x.risk(1, 3));
        Check.promise(17, "his MIND stays", 0x110, Check.mind(x, 0));
        Check.promise(17, "nothing is LOST", 1, x.of(0, 5));
        x = Check.with("things 5;secret 0 1;", 3);
        Check.hear(x, 0, 0, 1);
        Check.promise(17, "1: he holds both, and hears another one", 1, x.risk(0, 4));
    }

    private static void riskRefused() {
        NineInMind x = Check.with("things 4;", 2);
        for (int far : FAR) {
            Check.promise(17, "-2: no COURIER " + far, -2, x.risk(far, 0));
            Check.promise(17, "-2: no THING " + far, -2, x.risk(0, far));
        }
        Check.promise(17, "-2: the COURIER behind the last", -2, x.risk(1, 0));
        Check.promise(17, "-2: the THING behind the last", -2, x.risk(0, 4));
    }

    // ---- promise 18

    private static void loud() {
        NineInMind x = Check.with("things 16;inn 0 15;inn;inn 1 1 2;inn 2 15;");
        Check.promise(18, "from an INN to itself: none", 0, x.loud(0, 0));
        Check.promise(18, "that at its end, which has none", 0, x.loud(0, 1));
        Check.promise(18, "unlike ones", 2, x.loud(1, 2));
        Check.promise(18, "from the first to the last", 3, x.loud(0, 3));
        Check.promise(18, "from the last to the first", 4, x.loud(3, 0));
        Check.promise(18, "not that at its beginning", 2, x.loud(2, 0));
        x = Check.with("things 16;inn;inn 0 1 2 3 4 5 6 7 8;inn 9 10 11 12 13 14 15;");
        Check.promise(18, "all THINGS", 16, x.loud(0, 2));
    }

    private static void loudRefused() {
        NineInMind x = Check.with("things 4;inn;inn;");
        for (int far : FAR) {
            Check.promise(18, "-2: no INN " + far, -2, x.loud(far, 0));
            Check.promise(18, "-2: no other INN " + far, -2, x.loud(0, far));
        }
        Check.promise(18, "-2: the INN behind the last", -2, x.loud(2, 0));
        Check.promise(18, "-2: the other INN behind the last", -2, x.loud(0, 2));
        Check.promise(18, "-2: without INNS", -2, Check.with("things 4;").loud(0, 0));
    }

    // ---- promise 19

    private static void turned() {
        NineInMind x = Check.with("things 16;", 9, 9, 9);
        Check.promise(19, "empty MINDS", 0, x.turned(0, 1));
        Check.hear(x, 0, 0, 1, 2, 3, 4, 5, 6, 7, 15);
        Check.promise(19, "one MIND is empty", 0, x.turned(0, 1));
        Check.hear(x, 1, 15);
        Check.promise(19, "one THING in common is no pair", 0, x.turned(0, 1));
        Check.hear(x, 1, 7);
        Check.promise(19, "two in unlike order", 1, x.turned(0, 1));
        Check.hear(x, 1, 15);
        Check.promise(19, "two in like order", 0, x.turned(0, 1));
        Check.hear(x, 2, 15, 7, 6, 5, 4, 3, 2, 1, 0);
        Check.promise(19, "full MINDS, all turned", 36, x.turned(0, 2));
        Check.promise(19, "the other way likewise", 36, x.turned(2, 0));
        Check.promise(19, "one and the same", 0, x.turned(2, 2));
    }

    private static void turnedRefused() {
        NineInMind x = Check.with("things 4;", 2, 2);
        for (int far : FAR) {
            Check.promise(19, "-2: no COURIER " + far, -2, x.turned(far, 0));
            Check.promise(19, "-2: no other one " + far, -2, x.turned(0, far));
        }
        Check.promise(19, "-2: the COURIER behind the last", -2, x.turned(2, 0));
        Check.promise(19, "-2: the other one behind the last", -2, x.turned(0, 2));
    }
}
