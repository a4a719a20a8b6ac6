/** Promises 7 to 22: couriers and what they do. */
public final class CouriersTest {
    private static final String LORE =
            "things 8;mind 4;rhyme 0 6;rhyme 0 2;rhyme 6 7;secret 1 2;secret 5 3;worth 0 10;worth 7 3;inn 1;inn 4 5;inn 3 4 3;";

    public static void main(String[] args) {
        comes();
        of();
        lost();
        hears();
        says();
        tells();
        walks();
        recites();
        delivers();
        breach();
        risk();
        loud();
        turned();
        acts();
        actsThatCannotBe();
        listening();
        day();
        Check.end("CouriersTest");
    }

    private static NineInMind withCouriers(int... sizes) {
        return Check.with(LORE, sizes);
    }

    /** Promise 7. */
    private static void comes() {
        NineInMind x = withCouriers();
        Check.due("comes(0)", -3, x.comes(0));
        Check.due("comes(5)", -3, x.comes(5));
        for (int c = 0; c < 6; c++) {
            Check.due("comes", c, x.comes(1 + c % 4));
        }
        Check.due("a 7th", -4, x.comes(1));
        Check.due("a 7th of no size", -4, x.comes(0));
        Check.due("count(3)", 6, x.count(3));
    }

    /** Promise 8. */
    private static void of() {
        NineInMind x = withCouriers(3, 4);
        Check.hear(x, 0, 7, 0, 1, 4);
        x.walks(0, 1);
        long[] due = {3, 1, 3, 1 << 5 | 1 << 4 | 1 << 1, 3, 2};
        for (int what = 0; what < due.length; what++) {
            Check.due("of(0, " + what + ")", due[what], x.of(0, what));
        }
        Check.due("of(0, 10)", 5, x.of(0, 10));
        Check.due("of(0, 11)", 4, x.of(0, 11));
        Check.due("of(0, 12)", 1, x.of(0, 12));
        Check.due("of(0, 13)", -7, x.of(0, 13));
        Check.due("of(0, max)", -7, x.of(0, Integer.MAX_VALUE));
        for (int what = 6; what < 10; what++) {
            Check.due("of(0, " + what + ")", -2, x.of(0, what));
        }
        Check.due("of(0, -1)", -2, x.of(0, -1));
        Check.due("of(0, min)", -2, x.of(0, Integer.MIN_VALUE));
        Check.due("of(2, 0)", -2, x.of(2, 0));
        Check.due("of(-1, 0)", -2, x.of(-1, 0));
        Check.due("of(1, 2)", 0, x.of(1, 2));
        Check.due("of(1, 10)", -7, x.of(1, 10));
        Check.hear(x, 1, 0, 7);
        Check.due("of(1, 4)", 13, x.of(1, 4));
    }

    /** Promise 9: the INN of the latest loss counts. */
    private static void lost() {
        NineInMind x = withCouriers(1);
        Check.hear(x, 0, 3, 4);
        Check.due("lost(0, 3)", 0, x.lost(0, 3));
        Check.due("lost(0, 4)", -1, x.lost(0, 4));
        x.walks(0, 2);
        Check.due("lost(0, 3) on the way", 2, x.lost(0, 3));
        Check.due("lost(0, 4) on the way", 2, x.lost(0, 4));
        Check.due("lost(0, 5) on the way", 2, x.lost(0, 5));
        Check.due("lost(0, 8)", -2, x.lost(0, 8));
        Check.due("lost(0, -1)", -2, x.lost(0, -1));
        Check.due("lost(1, 0)", -2, x.lost(1, 0));
        Check.tell(x, LORE);
        x.comes(1);
        Check.due("lost(0, 3) of a new one", -1, x.lost(0, 3));
    }

    /** Promise 10. */
    private static void hears() {
        NineInMind x = withCouriers(3);
        Check.due("hears(0, 5)", -1, x.hears(0, 5));
        Check.due("hears(0, 6)", -1, x.hears(0, 6));
        Check.due("hears(0, 7)", -1, x.hears(0, 7));
        Check.due("hears(0, 5) again", -1, x.hears(0, 5));
        Check.due("mind", 0x1576, Check.mind(x, 0));
        Check.due("hears(0, 7) again", -1, x.hears(0, 7));
        Check.due("mind", 0x1756, Check.mind(x, 0));
        Check.due("hears(0, 7) at the front", -1, x.hears(0, 7));
        Check.due("mind", 0x1756, Check.mind(x, 0));
        Check.due("hears(0, 0)", 6, x.hears(0, 0));
        Check.due("mind", 0x1075, Check.mind(x, 0));
        Check.due("hears(0, 8)", -2, x.hears(0, 8));
        Check.due("hears(0, -1)", -2, x.hears(0, -1));
        Check.due("hears(1, 0)", -2, x.hears(1, 0));
        Check.due("mind stays", 0x1075, Check.mind(x, 0));
    }

    /** Promise 11: rhymes come by numbers, and bring no further ones. */
    private static void says() {
        NineInMind x = withCouriers(4, 2, 1);
        Check.due("says(0, 0)", -5, x.says(0, 0));
        Check.hear(x, 0, 0, 5, 3);
        Check.due("says(0, 0)", 1, x.says(0, 0));
        Check.due("mind", 0x16203, Check.mind(x, 0));
        Check.due("says(0, 3)", 0, x.says(0, 3));
        Check.due("mind", 0x13620, Check.mind(x, 0));
        // what he says is itself driven out by what rhymes
        Check.hear(x, 1, 0, 1);
        Check.due("says(1, 0)", 2, x.says(1, 0));
        Check.due("mind", 0x162, Check.mind(x, 1));
        Check.hear(x, 2, 0);
        Check.due("says(2, 0)", 2, x.says(2, 0));
        Check.due("mind", 0x16, Check.mind(x, 2));
        Check.due("says(2, 8)", -2, x.says(2, 8));
        Check.due("says(3, 0)", -2, x.says(3, 0));
    }

    /** Promise 12. */
    private static void tells() {
        NineInMind x = withCouriers(2, 1);
        Check.hear(x, 0, 0, 5);
        Check.hear(x, 1, 4);
        Check.due("tells(0, 1, 0)", 3, x.tells(0, 1, 0));
        Check.due("teller", 0x162, Check.mind(x, 0));
        Check.due("listener", 0x10, Check.mind(x, 1));
        Check.due("tells(0, 1, 0)", -5, x.tells(0, 1, 0));
        Check.due("tells(0, 0, 6)", -2, x.tells(0, 0, 6));
        Check.due("tells(0, 2, 6)", -2, x.tells(0, 2, 6));
        Check.due("tells(2, 0, 6)", -2, x.tells(2, 0, 6));
        Check.due("tells(0, 1, 8)", -2, x.tells(0, 1, 8));
        x.walks(1, 1);
        Check.due("tells(0, 1, 6) elsewhere", -5, x.tells(0, 1, 6));
        Check.due("teller stays", 0x162, Check.mind(x, 0));
        x.walks(0, 1);
        Check.due("tells(0, 1, 5) there", 0, x.tells(0, 1, 5));
    }

    /** Promise 13: news of the first INN only if he comes to it. */
    private static void walks() {
        NineInMind x = withCouriers(4, 2);
        Check.due("walks(0, 0)", 0, x.walks(0, 0));
        Check.due("mind", 0x1, Check.mind(x, 0));
        Check.due("walks(0, 2)", 0, x.walks(0, 2));
        Check.due("mind", 0x1345, Check.mind(x, 0));
        Check.due("walks(0, 0) back", 0, x.walks(0, 0));
        Check.due("mind", 0x11543, Check.mind(x, 0));
        Check.due("of(0, 1)", 0, x.of(0, 1));
        Check.due("walks(1, 2)", 2, x.walks(1, 2));
        Check.due("walks(0, 3)", -2, x.walks(0, 3));
        Check.due("walks(0, -1)", -2, x.walks(0, -1));
        Check.due("walks(2, 0)", -2, x.walks(2, 0));
        x = Check.withLore("things 2;");
        x.comes(1);
        Check.due("walks(0, 0) without inns", -2, x.walks(0, 0));
    }

    /** Promise 14. */
    private static void recites() {
        NineInMind x = withCouriers(3);
        Check.hear(x, 0, 0, 1);
        Check.row(x, 0, 1, 6, 0, 6, 2, 99, -1, 1L << 32, 1);
        // 1: 1 0. 6: not there. 0: 0 1, then 2, 6: 6 2 0. 6: 6 2 0, then 7: 7 6 2. 2: 2 7 6. 1: gone
        Check.due("recites(0, 0)", 4, x.recites(0, 0));
        Check.due("mind", 0x1276, Check.mind(x, 0));
        Check.row(x, 1);
        Check.due("recites(0, 1) of nothing", 0, x.recites(0, 1));
        Check.due("recites(0, 2)", -6, x.recites(0, 2));
        Check.due("recites(0, 4)", -2, x.recites(0, 4));
        Check.due("recites(0, -1)", -2, x.recites(0, -1));
        Check.due("recites(1, 2)", -2, x.recites(1, 2));
    }

    /** Promise 15. */
    private static void delivers() {
        NineInMind x = withCouriers(3, 4);
        Check.due("delivers(0) of nothing", 0, x.delivers(0));
        Check.hear(x, 0, 1, 3, 0);
        // 1: 1 0 3. 3: 3 1 0. 0: 0 3 1, then 2, 6: 6 2 0
        Check.due("delivers(0)", 1 << 1 | 1 << 3 | 1 | 1 << 2 | 1 << 6, x.delivers(0));
        Check.due("mind", 0x1620, Check.mind(x, 0));
        // 0: 0 6 2, then 2, 6: 6 2 0. 2: 2 6 0. 6: 6 2 0, then 7: 7 6 2
        Check.due("delivers(0) again", 1 | 1 << 2 | 1 << 6 | 1 << 7, x.delivers(0));
        Check.due("mind", 0x1762, Check.mind(x, 0));
        // 0 drives out 5 and 4 ahead of their turn
        Check.hear(x, 1, 0, 5, 4, 3);
        Check.due("delivers(1)", 1 | 1 << 2 | 1 << 6 | 1 << 3, x.delivers(1));
        Check.due("mind", 0x13620, Check.mind(x, 1));
        Check.due("delivers(2)", -2, x.delivers(2));
        Check.due("delivers(-1)", -2, x.delivers(-1));
    }

    /** Promise 16. */
    private static void breach() {
        NineInMind x = withCouriers(4, 4);
        Check.due("breach()", -1, x.breach());
        Check.hear(x, 1, 5, 3);
        Check.due("breach()", 1065, x.breach());
        Check.hear(x, 1, 2, 1);
        Check.due("the least one", 1022, x.breach());
        Check.hear(x, 0, 3);
        Check.due("one of both", 1022, x.breach());
        Check.hear(x, 0, 5);
        Check.due("the first courier", 65, x.breach());
    }

    /** Promise 17. */
    private static void risk() {
        NineInMind x = withCouriers(2);
        Check.hear(x, 0, 3, 4);
        Check.due("risk(0, 5): 3 is driven out", 0, x.risk(0, 5));
        Check.hear(x, 0, 3);
        Check.due("risk(0, 5)", 1, x.risk(0, 5));
        Check.due("mind stays", 0x134, Check.mind(x, 0));
        Check.due("nothing lost", 0, x.of(0, 5));
        Check.hear(x, 0, 5);
        Check.due("risk(0, 0): 3 goes", 0, x.risk(0, 0));
        Check.due("risk(0, 3): he holds both", 1, x.risk(0, 3));
        Check.due("risk(0, 8)", -2, x.risk(0, 8));
        Check.due("risk(1, 0)", -2, x.risk(1, 0));
    }

    /** Promise 18. */
    private static void loud() {
        NineInMind x = withCouriers();
        Check.due("loud(0, 2)", 3, x.loud(0, 2));
        Check.due("loud(2, 0)", 3, x.loud(2, 0));
        Check.due("loud(0, 1)", 2, x.loud(0, 1));
        Check.due("loud(1, 0)", 1, x.loud(1, 0));
        Check.due("loud(1, 2)", 2, x.loud(1, 2));
        Check.due("loud(1, 1)", 0, x.loud(1, 1));
        Check.due("loud(0, 3)", -2, x.loud(0, 3));
        Check.due("loud(-1, 0)", -2, x.loud(-1, 0));
    }

    /** Promise 19. */
    private static void turned() {
        NineInMind x = withCouriers(4, 4, 4);
        Check.hear(x, 0, 1, 2, 3, 4);
        Check.hear(x, 1, 4, 3, 2, 0);
        Check.due("turned(0, 1)", 3, x.turned(0, 1));
        Check.due("turned(1, 0)", 3, x.turned(1, 0));
        Check.due("turned(0, 0)", 0, x.turned(0, 0));
        Check.hear(x, 2, 2, 4, 3);
        Check.due("turned(0, 2)", 1, x.turned(0, 2));
        Check.due("turned(1, 2)", 2, x.turned(1, 2));
        Check.due("turned(0, 3)", -2, x.turned(0, 3));
        Check.due("turned(3, 0)", -2, x.turned(3, 0));
    }

    /** Promises 20 and 21. */
    private static void acts() {
        NineInMind x = withCouriers(3, 2);
        Check.row(x, 0, 3, 20 + 3, 5, 40 + 2, 0, 20);
        // 3. 3. 5 3 (both). 4 5 3, 5 4 3 (both), 3 5 4, 4 3 5, 3 4 5 (both). 0 3 4 (5 goes). 0 3 4, 2 0 3, 6 2 0
        Check.due("judge(0, 0, 0)", -1, x.judge(0, 0, 0));
        Check.due("judge(0, 0, 1)", 3, x.judge(0, 0, 1));
        Check.due("judge(0, 0, 2)", 1 | 1 << 2 | 1 << 6, x.judge(0, 0, 2));
        Check.due("judge(0, 0, 3)", 2, x.judge(0, 0, 3));
        Check.due("nothing is done", 0x1, Check.mind(x, 0));
        Check.due("he is where he was", 0, x.of(0, 1));
        Check.due("nothing lost", 0, x.of(0, 5));
        Check.due("lost(0, 5)", -1, x.lost(0, 5));
        Check.due("perform(0, 0)", 6, x.perform(0, 0));
        Check.due("mind", 0x1620, Check.mind(x, 0));
        Check.due("inn", 2, x.of(0, 1));
        Check.due("lost(0, 5)", 2, x.lost(0, 5));
        Check.due("of(0, 5)", 3, x.of(0, 5));
        Check.due("judge(0, 0, 4)", -2, x.judge(0, 0, 4));
        Check.due("judge(0, 0, -1)", -2, x.judge(0, 0, -1));
        Check.due("judge(2, 0, 0)", -2, x.judge(2, 0, 0));
        Check.due("judge(0, 4, 0)", -2, x.judge(0, 4, 0));
        Check.due("judge(0, 3, 0)", -6, x.judge(0, 3, 0));
        Check.due("judge(0, 3, 9)", -2, x.judge(0, 3, 9));
        Check.due("perform(0, 3)", -6, x.perform(0, 3));
        Check.due("perform(0, -1)", -2, x.perform(0, -1));
        Check.due("perform(2, 3)", -2, x.perform(2, 3));
        Check.row(x, 0);
        Check.due("judge of nothing", -1, x.judge(0, 0, 0));
        Check.due("perform of nothing", 0, x.perform(0, 0));
    }

    private static void actsThatCannotBe() {
        NineInMind x = withCouriers(3, 2);
        x.walks(1, 1);
        long[] none = {8, 15, 16, 19, 20, 28, 35, 36, 39, 43, 50, 59, 60, 61, 62, 66, 99, -1, 1L << 32, (1L << 32) + 40,
            Long.MIN_VALUE, Long.MAX_VALUE};
        for (long act : none) {
            Check.row(x, 0, 1, act, 2);
            Check.due("judge of " + act, 1, x.judge(0, 0, 0));
            Check.due("things of " + act, 2, x.judge(0, 0, 2));
        }
        Check.row(x, 0, 7, 6, 5, 4, 3, 29, 0);
        Check.due("judge", 5, x.judge(0, 0, 0));
        Check.due("lost ahead of it", 2, x.judge(0, 0, 1));
        Check.due("places", 1, x.judge(0, 0, 3));
        Check.due("perform", 5, x.perform(0, 0));
        Check.due("mind", 0x1345, Check.mind(x, 0));
        // where the other one is, he tells him
        Check.row(x, 0, 41, 61);
        Check.due("judge", -1, x.judge(0, 0, 0));
        Check.row(x, 0, 41, 42, 61);
        Check.due("judge elsewhere", 2, x.judge(0, 0, 0));
    }

    /** An act 60 + c: that one says all that he has, and so may lose and hear. */
    private static void listening() {
        NineInMind x = withCouriers(4, 3, 3);
        Check.hear(x, 1, 5, 6, 0);
        Check.row(x, 0, 61);
        // 0: 0 6 5, 2 0 6, 6 2 0. 6: 6 2 0, 7 6 2. 5: gone
        Check.due("judge", 1 | 1 << 6, x.judge(0, 0, 2));
        Check.due("he lost", 0, x.judge(0, 0, 1));
        Check.due("the other one stays", 0x1065, Check.mind(x, 1));
        Check.due("perform", 1, x.perform(0, 0));
        Check.due("mind", 0x160, Check.mind(x, 0));
        Check.due("the other's", 0x1762, Check.mind(x, 1));
        Check.due("the other's losses", 2, x.of(1, 5));
        // twice: the second time the other one's mind is as the first time left it
        Check.row(x, 0, 61, 61);
        Check.due("judge twice", 1 | 1 << 6 | 1 << 7 | 1 << 2, x.judge(0, 0, 2));
        Check.row(x, 0, 62);
        Check.due("one with nothing in mind", -1, x.judge(0, 0, 0));
    }

    /** Promise 22: the draws of a day by hand. */
    private static void day() {
        NineInMind x = Check.withLore("things 3;inn 0;inn 1 2;");
        Check.due("without couriers", -5, x.day(1, 0));
        x.comes(2);
        Check.due("0 times", -3, x.day(1, 0));
        Check.due("41 times", -3, x.day(1, 41));
        Check.due("-1 times", -3, x.day(1, -1));
        int seed = 1;
        int lost = 0;
        NineInMind y = Check.withLore("things 3;inn 0;inn 1 2;");
        y.comes(2);
        for (int time = 0; time < 40; time++) {
            seed = 1103515245 * seed + 12345;
            int what = (seed >>> 16) % 4;
            if (what == 1 && y.of(0, 2) == 0) {
                continue;
            }
            seed = 1103515245 * seed + 12345;
            int draw = seed >>> 16;
            if (what == 0) {
                lost += y.hears(0, draw % 3) == -1 ? 0 : 1;
            } else if (what == 1) {
                lost += y.says(0, y.of(0, 10 + draw % y.of(0, 2)));
            } else {
                lost += y.walks(0, draw % 2);
            }
        }
        Check.due("day(1, 40)", lost, x.day(1, 40));
        Check.due("mind", Check.mind(y, 0), Check.mind(x, 0));
        Check.due("inn", y.of(0, 1), x.of(0, 1));
        Check.due("losses", lost, x.of(0, 5));
        // 16838, 38526, 10113, 50283: modulo 4 that is 2, 2, 1, 3: without inns and with nothing in mind no more draws
        x = Check.withLore("things 3;");
        x.comes(2);
        Check.due("day(1, 4)", 0, x.day(1, 4));
        Check.due("mind", 0x1, Check.mind(x, 0));
    }
}
