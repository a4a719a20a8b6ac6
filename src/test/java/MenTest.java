/** Promises 31 to 34: what comes back, seeds, men and their loads. */
public final class MenTest {
    public static void main(String[] args) {
        back();
        seeds();
        menOnce();
        menWithSecrets();
        menDoubled();
        refused();
        Check.end("MenTest");
    }

    /** Promise 31. */
    private static void back() {
        NineInMind x = Check.withLore("things 16;rhyme 15 14;rhyme 14 13;rhyme 13 15;rhyme 0 15;");
        Check.due("back(1)", 0xe001, x.back(1));
        Check.due("back(1 << 14)", 0xe000, x.back(1 << 14));
        Check.due("back(6)", 6, x.back(6));
        Check.due("back(0)", 0, x.back(0));
        Check.due("back(all)", 0xffff, x.back(0xffff));
        Check.due("back(1 << 16)", -3, x.back(1 << 16));
        Check.due("back(-1)", -3, x.back(-1));
        StringBuilder chain = new StringBuilder("things 16;");
        for (int t = 15; t > 0; t--) {
            chain.append("rhyme ").append(t).append(' ').append(t - 1).append(';');
        }
        x = Check.withLore(chain.toString());
        Check.due("a chain", 0xffff, x.back(1 << 15));
        Check.due("a chain from 3", 15, x.back(8));
    }

    /** Promise 32. */
    private static void seeds() {
        NineInMind x = Check.withLore("things 8;rhyme 6 0;rhyme 6 1;rhyme 7 1;rhyme 7 2;rhyme 5 0;rhyme 5 1;");
        Check.due("none wanted", 0, x.seeds(0));
        Check.due("one of itself", 1, x.seeds(1));
        Check.due("one from outside, the least of both", 1 << 5, x.seeds(3));
        Check.due("7 for two", 1 << 7, x.seeds(6));
        Check.due("two for three, the least", 1 << 5 | 1 << 2, x.seeds(7));
        Check.due("two for two apart", 5, x.seeds(5));
        Check.due("all", 0xf8, x.seeds(255));
        Check.due("a set with others", -3, x.seeds(256));
        Check.due("a set with others", -3, x.seeds(Integer.MIN_VALUE));
        x = Check.withLore("things 4;rhyme 3 2;rhyme 2 3;rhyme 2 1;");
        Check.due("a ring: the least of it", 4, x.seeds(8));
        Check.due("a ring and more", 4, x.seeds(14));
        x = Check.withLore("things 16;");
        Check.due("without rhymes", 0xffff, x.seeds(0xffff));
    }

    private static void loads(NineInMind x, int wanted, int each, boolean doubled, int... due) {
        String call = "(" + wanted + ", " + each + ", " + doubled + ")";
        Check.due("men" + call, due.length, x.men(wanted, each, doubled));
        for (int man = 0; man < due.length; man++) {
            Check.due("load " + man + call, due[man], x.load(wanted, each, doubled, man));
        }
        Check.due("load " + due.length + call, -1, x.load(wanted, each, doubled, due.length));
        Check.due("load -1" + call, -1, x.load(wanted, each, doubled, -1));
    }

    /** Promises 33 and 34. */
    private static void menOnce() {
        NineInMind x = Check.withLore("things 16;");
        loads(x, 0, 1, false);
        loads(x, 0x8000, 9, false, 0x8000);
        loads(x, 0x1ff, 9, false, 0x1ff);
        // nine at most: the least that man 0 must take is one
        loads(x, 0x3ff, 9, false, 1, 0x3fe);
        loads(x, 0xffff, 9, false, 0x7f, 0xff80);
        loads(x, 0x1f, 2, false, 1, 6, 0x18);
        loads(x, 0x15, 1, false, 1, 4, 16);
        loads(x, 0xffff, 1, false, 1, 2, 4, 8, 16, 32, 64, 128, 256, 512, 1024, 2048, 4096, 8192, 16384, 32768);
    }

    private static void menWithSecrets() {
        NineInMind x = Check.withLore("things 6;secret 0 1;secret 1 2;secret 2 0;secret 3 4;");
        loads(x, 0x3f, 9, false, 1, 0xa, 0x34);
        // 0, 1, 2 are with three men; three men carry six by two each
        loads(x, 0x3f, 2, false, 9, 0x12, 0x24);
        loads(x, 7, 9, false, 1, 2, 4);
        loads(x, 0x18, 9, false, 8, 16);
        loads(x, 0x28, 9, false, 0x28);
        // a thing that is secret with all others is carried alone
        x = Check.withLore("things 6;secret 5 0;secret 5 1;secret 5 2;secret 5 3;secret 5 4;");
        loads(x, 0x3f, 9, false, 0x1f, 0x20);
        loads(x, 0x3f, 3, false, 3, 0x1c, 0x20);
        loads(x, 0x3f, 4, false, 1, 0x1e, 0x20);
        // 0 to 3 would be less, but are too many for one
        x = Check.withLore("things 6;secret 4 0;secret 4 1;secret 5 2;secret 5 3;");
        loads(x, 0x3f, 3, false, 0x1c, 0x23);
        loads(x, 0x3f, 4, false, 0xf, 0x30);
    }

    private static void menDoubled() {
        NineInMind x = Check.withLore("things 16;secret 0 1;secret 8 9;");
        loads(x, 0, 3, true);
        loads(x, 4, 3, true, 4, 4);
        loads(x, 3, 9, true, 1, 1, 2, 2);
        loads(x, 0xfc, 9, true, 0xfc, 0xfc);
        // six copies, two each: three men; each thing by two unlike men
        loads(x, 0x1c, 2, true, 0xc, 0x14, 0x18);
        loads(x, 7, 2, true, 1, 1, 6, 6);
        loads(x, 0xff00, 1, true, 256, 256, 512, 512, 1024, 1024, 2048, 2048,
                4096, 4096, 8192, 8192, 16384, 16384, 32768, 32768);
        Check.due("nine doubled", -4, x.men(0x1ff, 3, true));
        Check.due("nine doubled", -4, x.load(0x1ff, 3, true, 0));
        doubledAmongSecrets();
    }

    /** With the last THING that is due twice, a man more is needed than its secrets alone would tell. */
    private static void doubledAmongSecrets() {
        // 0, 2, 3 are secret with each other: two men for each are six
        NineInMind x = Check.withLore("things 8;secret 0 2;secret 0 3;secret 0 4;secret 1 4;secret 2 3;secret 3 5;"
                + "secret 4 6;secret 4 7;secret 5 6;");
        loads(x, 0xff, 3, true, 1, 0x34, 0x34, 0x43, 0x8a, 0xc8);
        loads(x, 0xff, 4, true, 1, 1, 0x34, 0x34, 0xca, 0xca);
        x = Check.withLore("things 8;secret 0 2;secret 0 4;secret 0 7;secret 1 6;secret 1 7;secret 2 6;secret 2 7;"
                + "secret 3 4;secret 3 5;secret 3 6;secret 4 5;secret 5 6;secret 6 7;");
        loads(x, 0xff, 3, true, 9, 0xe, 0x16, 0x41, 0x50, 0xa0, 0xa0);
        loads(x, 0xff, 9, true, 9, 0xe, 0x16, 0x41, 0x50, 0xa0, 0xa0);
    }

    private static void refused() {
        NineInMind x = Check.withLore("things 9;");
        for (int wanted : new int[] {512, -1, Integer.MIN_VALUE}) {
            Check.due("men, others", -3, x.men(wanted, 3, true));
            Check.due("load, others", -3, x.load(wanted, 3, true, 0));
        }
        for (int each : new int[] {0, 10, -1, Integer.MIN_VALUE}) {
            Check.due("men, each", -3, x.men(0x1ff, each, true));
            Check.due("load, each", -3, x.load(0x1ff, each, true, 0));
        }
        Check.due("load of no such man", -1, x.load(0x1ff, 3, false, Integer.MAX_VALUE));
        Check.due("load of no such man", -1, x.load(0x1ff, 3, false, Integer.MIN_VALUE));
    }
}
