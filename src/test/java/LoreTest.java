/** Promises 1 to 6: a new object, the tape, the text and its faults. */
public final class LoreTest {
    public static void main(String[] args) {
        newObject();
        tape();
        readsAll();
        laterLinesStrike();
        bounds();
        faultOne();
        faultTwo();
        faultThree();
        faultFour();
        faultsChangeNothing();
        thingsAndNews();
        Check.end("LoreTest");
    }

    /** Promise 1. */
    private static void newObject() {
        NineInMind x = new NineInMind();
        int[] counts = {0, 9, 0, 0, 0, 0, 0, -1};
        for (int what = 0; what < counts.length; what++) {
            Check.due("new count(" + what + ")", counts[what], x.count(what));
        }
        Check.due("new fault(0)", 0, x.fault(0));
        Check.due("new fault(1)", -1, x.fault(1));
        Check.due("new of(0, 0)", -2, x.of(0, 0));
        Check.due("new comes(1)", -5, x.comes(1));
        Check.due("new comes(0)", -5, x.comes(0));
        Check.due("new joined(-1)", 0, x.joined(-1));
        Check.due("new joined(0)", -1, x.joined(0));
        Check.due("new gaps()", 0, x.gaps());
        Check.due("new write(0, 0, 0)", -6, x.write(0, 0, 0));
        Check.due("new restore(0)", -5, x.restore(0));
    }

    /** Promises 2 and 3. */
    private static void tape() {
        NineInMind x = new NineInMind();
        for (int n = 20; n <= 500; n += 20) {
            Check.due("feed to " + n, n, x.feed(0x20202020, 0x20202020, 0x20202020, 0x20202020, 0x20202020));
        }
        Check.due("feed above 500", -5, x.feed(0, 0, 0, 0, 0));
        Check.due("count(6) at 500", 500, x.count(6));
        Check.due("lore(-1)", -3, x.lore(-1));
        Check.due("lore(501)", -3, x.lore(501));
        Check.due("lore(min)", -3, x.lore(Integer.MIN_VALUE));
        Check.due("lore(max)", -3, x.lore(Integer.MAX_VALUE));
        Check.due("count(6) stays", 500, x.count(6));
        Check.due("lore(500) of blanks", 0, x.lore(500));
        Check.due("count(6) then", 0, x.count(6));
        Check.due("lore(1) of nothing", -3, x.lore(1));
        // the highest byte of each int comes first
        Check.due("feed", 20, x.feed(0x7468696e, 0x67732037, 0x3b000000, -1, -1));
        Check.due("lore(9)", 1, x.lore(9));
        Check.due("count(0)", 7, x.count(0));
        // a text as long as it can be: 9 + 48 times 10 + 11 bytes
        StringBuilder s = new StringBuilder("things16;");
        for (int i = 0; i < 48; i++) {
            s.append("secret").append(i % 8).append(' ').append((i + 1) % 8).append(";");
        }
        s.append("rhyme  1 2;");
        Check.due("its length", 500, s.length());
        Check.due("lore(500)", 50, Check.tell(x, s.toString()));
        Check.due("count(5)", 50, x.count(5));
        // behind n bytes the tape isn't read
        Check.feed(x, "things 3;#");
        Check.due("lore(9) ahead of a fault", 1, x.lore(9));
        Check.feed(x, "things 4;innn;");
        Check.due("lore(12) within a word", -32, x.lore(12));
        Check.due("its place", 12, x.fault(1));
        Check.feed(x, "things 4;mind 12;");
        Check.due("lore(15) within a number", -32, x.lore(15));
        Check.due("its place", 15, x.fault(1));
    }

    private static void readsAll() {
        NineInMind x = new NineInMind();
        Check.due("lore", 8, Check.tell(x,
                "things 5;\nmind 4;rhyme 0 3;rhyme 0 1;secret 4 2;worth 1 99 ; inn;inn 4 4 0\n;"));
        int[] counts = {5, 4, 2, 0, 0, 8, 0};
        for (int what = 0; what < counts.length; what++) {
            Check.due("count(" + what + ")", counts[what], x.count(what));
        }
        Check.due("things without blanks", 4, Check.tell(x, "things5;rhyme0 3;inn1 2;inn1;"));
        Check.due("3 digits", 2, Check.tell(x, "things 016;mind 009;"));
        Check.due("count(0)", 16, x.count(0));
        Check.due("no text", 0, x.lore(0));
        Check.due("count(0)", 0, x.count(0));
        Check.due("blanks alone", 0, Check.tell(x, " \n "));
    }

    private static void laterLinesStrike() {
        NineInMind x = Check.withLore("things 3;mind 2;mind 5;worth 1 7;worth 1 0;rhyme 0 1;rhyme 0 1;");
        Check.due("count(1)", 5, x.count(1));
        Check.due("count(5)", 7, x.count(5));
        Check.due("thing(1, 0)", 0, x.thing(1, 0));
        Check.due("thing(0, 1)", 2, x.thing(0, 1));
    }

    private static void bounds() {
        NineInMind x = new NineInMind();
        Check.due("things 1", 1, Check.tell(x, "things 1;"));
        Check.due("mind 1", 2, Check.tell(x, "things 16;mind 1;"));
        Check.due("mind 9", 2, Check.tell(x, "things 16;mind 9;"));
        Check.due("worth 0 and 99", 3, Check.tell(x, "things 16;worth 15 0;worth 0 99;"));
        Check.due("inn with 9", 2, Check.tell(x, "things 16;inn 15 15 15 15 15 15 15 15 15;"));
        Check.due("10 inns", 11, Check.tell(x, "things 1;inn;inn;inn;inn;inn;inn;inn;inn;inn;inn 0;"));
        Check.due("count(2)", 10, x.count(2));
    }

    private static void bad(String text, int kind, int place) {
        NineInMind x = new NineInMind();
        Check.due("lore \"" + text + "\"", -30 - kind, Check.tell(x, text));
        Check.due("fault(0) of \"" + text + "\"", kind, x.fault(0));
        Check.due("fault(1) of \"" + text + "\"", place, x.fault(1));
        Check.due("fault(2) of \"" + text + "\"", -1, x.fault(2));
        Check.due("fault(-1) of \"" + text + "\"", -1, x.fault(-1));
    }

    private static void faultOne() {
        bad("#", 1, 0);
        bad("Things 4;", 1, 0);
        bad("things 4;\t", 1, 9);
        bad("things 4;\r", 1, 9);
        bad("things -4;", 1, 7);
        bad("things 4,", 1, 8);
        bad("things 1000;", 1, 7);
        bad("things 0001;", 1, 7);
        bad("things 4;" + (char) 233, 1, 9);
        bad("things 4;" + (char) 0, 1, 9);
        bad("things 4;worth 0 9999", 1, 17);
        // where no number stands it is still the least kind
        bad("things 4;1234", 1, 9);
        bad("things 4;inn 0 0 0 0 0 0 0 0 0 1234;", 1, 31);
        bad("things 4;mind 3 _", 1, 16);
        // next to the letters and digits
        for (char sign : new char[] {'`', '{', '/', ':', '<', 'A', 'Z', 127, 128, 255}) {
            bad(String.valueOf(sign), 1, 0);
        }
    }

    private static void faultTwo() {
        bad("things", 2, 6);
        bad("things 4", 2, 8);
        bad("things 4 \n ", 2, 11);
        bad(";", 2, 0);
        bad("5", 2, 0);
        bad("thing 4;", 2, 0);
        bad("a", 2, 0);
        bad("z", 2, 0);
        bad("0", 2, 0);
        bad("9", 2, 0);
        bad("thingss 4;", 2, 0);
        bad("mind 4;things 4;", 2, 0);
        bad("  inn;", 2, 2);
        bad("things 4;;", 2, 9);
        bad("things 4;7;", 2, 9);
        bad("things;", 2, 6);
        bad("things four;", 2, 7);
        bad("things 4 5;", 2, 9);
        bad("things 4 mind 3;", 2, 9);
        bad("things 4;rhyme 0;", 2, 16);
        bad("things 4;rhyme 0 1 2;", 2, 19);
        bad("things 4;secret;", 2, 15);
        bad("things 4;worth 1;", 2, 16);
        bad("things 4;worth 1 1 1;", 2, 19);
        bad("things 4;inn 1 inn;", 2, 15);
        bad("things 4;inn 1", 2, 14);
        bad("things 4;inn", 2, 12);
        // a number that may not stand there is no matter of bounds
        bad("things 4;mind 3 99;", 2, 16);
    }

    private static void faultThree() {
        bad("things 0;", 3, 7);
        bad("things 17;", 3, 7);
        bad("things 4;mind 0;", 3, 14);
        bad("things 4;mind 10;", 3, 14);
        bad("things 4;rhyme 4 0;", 3, 15);
        bad("things 4;rhyme 0 4;", 3, 17);
        bad("things 4;rhyme 2 2;", 3, 17);
        bad("things 4;secret 4 0;", 3, 16);
        bad("things 4;secret 0 4;", 3, 18);
        bad("things 4;secret 3 3;", 3, 18);
        bad("things 4;secret 3 003;", 3, 18);
        bad("things 4;worth 4 0;", 3, 15);
        bad("things 4;worth 0 100;", 3, 17);
        bad("things 4;inn 4;", 3, 13);
        // the tenth one is too many and out of its bounds: the least kind
        bad("things 4;inn 0 0 0 0 0 0 0 0 0 4;", 3, 31);
        bad("things 1;rhyme 0 0;", 3, 17);
        // the first one along the text
        bad("things 4;mind 0 #", 3, 14);
    }

    private static void faultFour() {
        bad("things 4;things 4;", 4, 9);
        bad("things 1;things 1;", 4, 9);
        bad("things 4;mind 1;things", 4, 16);
        bad("things 4;inn 0 0 0 0 0 0 0 0 0 0;", 4, 31);
        bad("things 4;inn;inn;inn;inn;inn;inn;inn;inn;inn;inn;inn;", 4, 49);
        bad("things 4;inn;inn;inn;inn;inn;inn;inn;inn;inn;inn; inn 9;", 4, 50);
    }

    private static void faultsChangeNothing() {
        NineInMind x = Check.withLore("things 4;mind 2;worth 0 5;inn 1;");
        x.comes(2);
        x.hears(0, 3);
        Check.row(x, 0, 1, 2);
        x.piece(0);
        Check.due("a fault late in the text", -33, Check.tell(x, "things 6;mind 8;worth 0 9;rhyme 0 1;inn 2;inn 6;"));
        int[] counts = {4, 2, 1, 1, 1, 4, 0};
        for (int what = 0; what < counts.length; what++) {
            Check.due("count(" + what + ") behind a fault", counts[what], x.count(what));
        }
        Check.due("thing(0, 0)", 5, x.thing(0, 0));
        Check.due("thing(0, 1)", 0, x.thing(0, 1));
        Check.due("news(0, 0)", 1, x.news(0, 0));
        Check.due("mind", 0x13, Check.mind(x, 0));
        Check.due("fault(0)", 3, x.fault(0));
        Check.due("refused lore", -3, x.lore(1));
        Check.due("fault(0) stays", 3, x.fault(0));
        Check.due("a good one", 1, Check.tell(x, "things 2;"));
        Check.due("fault(0) then", 0, x.fault(0));
        Check.due("fault(1) then", -1, x.fault(1));
        int[] then = {2, 9, 0, 0, 0, 1, 0};
        for (int what = 0; what < then.length; what++) {
            Check.due("count(" + what + ") then", then[what], x.count(what));
        }
        Check.due("thing(0, 0) then", 1, x.thing(0, 0));
    }

    /** Promises 5 and 6. */
    private static void thingsAndNews() {
        NineInMind x = Check.withLore("things 16;worth 15 42;rhyme 0 15;rhyme 0 3;rhyme 3 0;secret 5 1;secret 1 9;inn 7 7;inn;inn 15;");
        Check.due("thing(15, 0)", 42, x.thing(15, 0));
        Check.due("thing(14, 0)", 1, x.thing(14, 0));
        Check.due("thing(0, 1)", 1 << 15 | 1 << 3, x.thing(0, 1));
        Check.due("thing(3, 1)", 1, x.thing(3, 1));
        Check.due("thing(15, 1)", 0, x.thing(15, 1));
        Check.due("thing(1, 2)", 1 << 5 | 1 << 9, x.thing(1, 2));
        Check.due("thing(9, 2)", 2, x.thing(9, 2));
        Check.due("thing(16, 0)", -2, x.thing(16, 0));
        Check.due("thing(-1, 0)", -2, x.thing(-1, 0));
        Check.due("thing(0, 3)", -2, x.thing(0, 3));
        Check.due("thing(0, -1)", -2, x.thing(0, -1));
        Check.due("news(0, -1)", 2, x.news(0, -1));
        Check.due("news(1, -1)", 0, x.news(1, -1));
        Check.due("news(0, 1)", 7, x.news(0, 1));
        Check.due("news(2, 0)", 15, x.news(2, 0));
        Check.due("news(0, 2)", -7, x.news(0, 2));
        Check.due("news(0, -2)", -7, x.news(0, -2));
        Check.due("news(3, -1)", -2, x.news(3, -1));
        Check.due("news(-1, -1)", -2, x.news(-1, -1));
        Check.due("news(3, 99)", -2, x.news(3, 99));
    }
}
