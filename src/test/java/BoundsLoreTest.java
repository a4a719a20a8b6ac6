/** Promises 1 to 6 and the terms of THE LORE: each sentence that names a boundary has a test of its own. */
public final class BoundsLoreTest {
    private static final int BLANKS = 0x20202020;
    private static final String TEN_INNS = "inn;inn;inn;inn;inn;inn;inn;inn;inn;inn;";

    public static void main(String[] args) {
        newObject();
        tapeIsFull();
        highestByteFirst();
        bytesComeBehind();
        textOfMostBytes();
        withoutText();
        thingsFromOneToSixteen();
        thingsOnce();
        thingsAhead();
        thingsFromNought();
        mindFromOneToNine();
        mindStrikes();
        rhymeOfUnlikeOnes();
        secretOfUnlikeOnes();
        worthUpToNinetyNine();
        newsOfNoughtToNine();
        newsInOrder();
        innsUpToTen();
        tokensGoOn();
        blanks();
        words();
        numbersOfDigits();
        signs();
        firstFaultCounts();
        leastKindCounts();
        noTokenBeginsSo();
        cannotStandThere();
        theEnd();
        outOfBounds();
        oneTooMany();
        firstBytesOfTheTape();
        numberOfBytes();
        withoutCouriersAndPieces();
        allStaysWithAFault();
        latestLoreThatWasRead();
        otherWhatsOfFault();
        thingRefused();
        newsRefused();
        Check.end("BoundsLoreTest");
    }

    private static void well(int promise, String sentence, String text, int lines) {
        NineInMind x = new NineInMind();
        Check.promise(promise, sentence + " \"" + text + "\"", lines, Check.tell(x, text));
        Check.promise(4, "its FAULT (0) \"" + text + "\"", 0, x.fault(0));
        Check.promise(4, "its place (NONE) \"" + text + "\"", -1, x.fault(1));
    }

    private static void bad(String sentence, String text, int kind, int place) {
        NineInMind x = new NineInMind();
        String told = sentence + " \"" + text + "\"";
        Check.promise(3, "-30 less the FAULT, " + told, -30 - kind, Check.tell(x, text));
        Check.promise(4, "its FAULT, " + told, kind, x.fault(0));
        Check.promise(4, "its place, " + told, place, x.fault(1));
    }

    private static void newObject() {
        NineInMind x = new NineInMind();
        Check.promise(1, "no LORE: THINGS", 0, x.count(0));
        Check.promise(1, "no LORE: mind is 9 without", 9, x.count(1));
        Check.promise(1, "no LORE: INNS", 0, x.count(2));
        Check.promise(1, "no COURIERS", 0, x.count(3));
        Check.promise(1, "no PIECES", 0, x.count(4));
        Check.promise(1, "no LORE: LINES", 0, x.count(5));
        Check.promise(1, "nothing on THE TAPE", 0, x.count(6));
        Check.promise(1, "no COURIER 0", -2, x.of(0, 0));
        Check.promise(1, "no THING 0", -2, x.thing(0, 0));
        Check.promise(1, "no INN 0", -2, x.news(0, -1));
        Check.promise(1, "ROWS are MISSING at first", -6, x.less(0));
        Check.promise(1, "ROWS are MISSING at first", -6, x.write(3, 0, 0));
        Check.promise(1, "IMAGES: none at first", -5, x.restore(0));
        Check.promise(1, "IMAGES: none at first", -5, x.restore(1));
        Check.promise(1, "no FAULT", 0, x.fault(0));
        Check.promise(1, "no place", -1, x.fault(1));
    }

    private static void tapeIsFull() {
        NineInMind x = new NineInMind();
        for (int n = 20; n <= 500; n += 20) {
            Check.promise(2, "how many it has", n, x.feed(BLANKS, BLANKS, BLANKS, BLANKS, BLANKS));
        }
        Check.promise(2, "-5: it would have more than 500", -5, x.feed(BLANKS, BLANKS, BLANKS, BLANKS, BLANKS));
        Check.promise(2, "-5, and THE TAPE is as it was", 500, x.count(6));
        Check.promise(2, "-5 changes no byte", 0, x.lore(500));
        Check.promise(2, "THE TAPE begins anew", 20, x.feed(BLANKS, BLANKS, BLANKS, BLANKS, BLANKS));
    }

    private static void highestByteFirst() {
        NineInMind x = new NineInMind();
        x.feed(0x7468696e, 0x67732031, 0x323b0a0a, BLANKS, BLANKS);
        Check.promise(2, "the highest of each int first", 1, x.lore(20));
        Check.promise(2, "things 12", 12, x.count(0));
        // a byte above 127 is one byte, too, wherever it stands in its int
        int[] shifts = {24, 16, 8, 0};
        for (int k = 0; k < 4; k++) {
            int spoilt = BLANKS & ~(255 << shifts[k]) | 233 << shifts[k];
            x.feed(BLANKS, BLANKS, BLANKS, BLANKS, spoilt);
            Check.promise(2, "byte " + k + " of the last int is 233", -31, x.lore(20));
            Check.promise(2, "its place", 16 + k, x.fault(1));
            x.feed(spoilt, BLANKS, BLANKS, BLANKS, BLANKS);
            Check.promise(2, "byte " + k + " of the first int is 233", -31, x.lore(20));
            Check.promise(2, "its place", k, x.fault(1));
        }
        x.feed(-1, -1, -1, -1, -1);
        Check.promise(2, "all bytes 255", -31, x.lore(20));
        x.feed(Integer.MIN_VALUE, Integer.MAX_VALUE, 0, 0, 0);
        Check.promise(2, "an int below 0 is four bytes", 20, x.count(6));
    }

    private static void bytesComeBehind() {
        NineInMind x = new NineInMind();
        Check.feed(x, "things 3;           ");
        Check.feed(x, "mind 2;mind 7;      ");
        Check.feed(x, "worth 1 5;          ");
        Check.promise(2, "come behind those on THE TAPE", 4, x.lore(60));
        Check.promise(2, "in their order", 7, x.count(1));
    }

    /** 9 + 48 times 10 + 11 bytes. */
    private static void textOfMostBytes() {
        StringBuilder s = new StringBuilder("things 2;");
        for (int i = 0; i < 48; i++) {
            s.append("worth 1 ").append(i % 10).append(';');
        }
        s.append("worth 01 99");
        Check.promise(3, "the text has 500 bytes", 500, s.length());
        bad("at most 500 bytes, no sign at the end", s.toString(), 2, 500);
        s.setLength(489);
        s.append("worth 1 99;");
        NineInMind x = new NineInMind();
        Check.promise(3, "at most 500 bytes, all are read", 50, Check.tell(x, s.toString()));
        Check.promise(3, "the last LINE strikes", 99, x.thing(1, 0));
        s.setLength(0);
        for (int i = 0; i < 499; i++) {
            s.append(' ');
        }
        bad("the last of 500 bytes", s.append('#').toString(), 1, 499);
    }

    private static void withoutText() {
        NineInMind x = Check.withLore("things 3;mind 2;inn;");
        Check.promise(3, "a text of 0 bytes has no LINES", 0, x.lore(0));
        Check.promise(3, "without a text: no THINGS", 0, x.count(0));
        Check.promise(3, "without a text: no THING 0", -2, x.thing(0, 0));
        Check.promise(3, "without a text: mind is 9", 9, x.count(1));
        Check.promise(3, "without a text: no INNS", 0, x.count(2));
        Check.promise(3, "without a text: no LINES", 0, x.count(5));
        well(3, "blanks alone are no LINE", "    \n\n   ", 0);
    }

    private static void thingsFromOneToSixteen() {
        for (int n = 1; n <= 16; n++) {
            NineInMind x = Check.withLore("things " + n + ";");
            Check.promise(3, "things 1 to 16", n, x.count(0));
            Check.promise(5, "the last THING is there", 1, x.thing(n - 1, 0));
            Check.promise(5, "-2 behind the last THING", -2, x.thing(n, 0));
        }
        bad("things 1 to 16: too small", "things 0;", 3, 7);
        bad("things 1 to 16: too great", "things 17;", 3, 7);
        bad("things 1 to 16: too great", "things 999;", 3, 7);
    }

    private static void thingsOnce() {
        bad("things once", "things 4;things 4;", 4, 9);
        bad("things once, though there is one alone", "things 1;things 1;", 4, 9);
        bad("things once, whatever follows", "things 4;things 0;", 4, 9);
        bad("things once, behind other LINES", "things 4;inn 1;\nthings 5;", 4, 16);
    }

    private static void thingsAhead() {
        for (String line : new String[] {"mind 3", "rhyme 0 1", "secret 0 1", "worth 0 1", "inn 0", "inn"}) {
            bad("any other LINE ahead of things: at its first TOKEN", line + ";things 4;", 2, 0);
            bad("any other LINE ahead of things: at its first TOKEN", "\n " + line + ";", 2, 2);
        }
        bad("ahead of things, before its own number is looked at", "mind 77;", 2, 0);
        bad("ahead of things, before what is no TOKEN", "mind #", 2, 0);
    }

    private static void thingsFromNought() {
        NineInMind x = Check.withLore("things 16;rhyme 0 15;");
        Check.promise(5, "THINGS are 0, 1 ..", 1 << 15, x.thing(0, 1));
        Check.promise(5, "the 16th is 15", 0, x.thing(15, 1));
    }

    private static void mindFromOneToNine() {
        for (int n = 1; n <= 9; n++) {
            Check.promise(3, "mind 1 to 9", n, Check.withLore("things 1;mind " + n + ";").count(1));
        }
        bad("mind 1 to 9: too small", "things 4;mind 0;", 3, 14);
        bad("mind 1 to 9: too great", "things 4;mind 10;", 3, 14);
        Check.promise(3, "mind 9 without", 9, Check.withLore("things 2;").count(1));
    }

    private static void mindStrikes() {
        Check.promise(3, "later ones strike: greater", 8, Check.withLore("things 1;mind 2;mind 8;").count(1));
        Check.promise(3, "later ones strike: less", 2, Check.withLore("things 1;mind 8;inn;mind 2;").count(1));
        NineInMind x = Check.withLore("things 1;mind 8;mind 2;");
        Check.promise(7, "the SIZE goes up to the later mind", -3, x.comes(3));
        Check.promise(7, "the SIZE goes up to the later mind", 0, x.comes(2));
        x = Check.withLore("things 1;mind 8;");
        Check.tell(x, "things 1;");
        Check.promise(3, "a mind doesn't outlast its LORE", 9, x.count(1));
    }

    private static void rhymeOfUnlikeOnes() {
        bad("rhyme of unlike ones", "things 4;rhyme 2 2;", 3, 17);
        bad("rhyme of unlike ones, by number", "things 4;rhyme 2 002;", 3, 17);
        bad("rhyme of unlike ones, though there is one alone", "things 1;rhyme 0 0;", 3, 17);
        bad("rhyme: the first THING out of bounds", "things 4;rhyme 4 0;", 3, 15);
        bad("rhyme: the second THING out of bounds", "things 4;rhyme 0 4;", 3, 17);
        NineInMind x = Check.withLore("things 4;rhyme 0 3;rhyme 0 3;rhyme 0 1;");
        Check.promise(5, "those that rhyme with it, told twice or not", 1 << 3 | 1 << 1, x.thing(0, 1));
        Check.promise(5, "a rhyme goes one way", 0, x.thing(3, 1));
        Check.promise(5, "a rhyme is no secret", 0, x.thing(0, 2));
        Check.tell(x, "things 4;");
        Check.promise(5, "a rhyme doesn't outlast its LORE", 0, x.thing(0, 1));
        Check.tell(x, "things 4;rhyme 1 2;#");
        Check.tell(x, "things 4;");
        Check.promise(5, "a rhyme of a text with a FAULT never was", 0, x.thing(1, 1));
    }

    private static void secretOfUnlikeOnes() {
        bad("secret of unlike ones", "things 4;secret 0 0;", 3, 18);
        bad("secret: the first THING out of bounds", "things 4;secret 4 0;", 3, 16);
        bad("secret: the second THING out of bounds", "things 4;secret 0 4;", 3, 18);
        NineInMind x = Check.withLore("things 4;secret 3 0;secret 0 1;");
        Check.promise(5, "those it is a secret with, the second", 1 << 3 | 1 << 1, x.thing(0, 2));
        Check.promise(5, "those it is a secret with, the first", 1, x.thing(3, 2));
        Check.promise(5, "a secret is no rhyme", 0, x.thing(3, 1));
        Check.tell(x, "things 4;");
        Check.promise(5, "a secret doesn't outlast its LORE", 0, x.thing(0, 2));
        Check.tell(x, "things 4;secret 1 2;#");
        Check.tell(x, "things 4;");
        Check.promise(5, "a secret of a text with a FAULT never was", 0, x.thing(2, 2));
    }

    private static void worthUpToNinetyNine() {
        NineInMind x = Check.withLore("things 3;worth 0 0;worth 2 99;");
        Check.promise(5, "worth 0", 0, x.thing(0, 0));
        Check.promise(5, "worth 1 without", 1, x.thing(1, 0));
        Check.promise(5, "worth 99", 99, x.thing(2, 0));
        bad("worth 0 to 99: too great", "things 3;worth 2 100;", 3, 17);
        bad("worth: the THING out of bounds", "things 3;worth 3 0;", 3, 15);
        x = Check.withLore("things 1;worth 0 50;worth 0 7;");
        Check.promise(5, "worth told twice", 7, x.thing(0, 0));
        Check.tell(x, "things 1;");
        Check.promise(5, "a worth doesn't outlast its LORE", 1, x.thing(0, 0));
    }

    private static void newsOfNoughtToNine() {
        NineInMind x = Check.withLore("things 16;inn;inn 0 1 2 3 4 5 6 7 15;inn 8;");
        Check.promise(6, "NEWS of 0", 0, x.news(0, -1));
        Check.promise(6, "NEWS of 9", 9, x.news(1, -1));
        Check.promise(6, "the ninth", 15, x.news(1, 8));
        Check.promise(6, "the next INN has its own", 8, x.news(2, 0));
        bad("a 10th THING of an inn", "things 4;inn 0 1 2 3 0 1 2 3 0 1;", 4, 31);
        bad("a THING of an inn out of its bounds", "things 4;inn 4;", 3, 13);
        Check.tell(x, "things 1;inn;inn 0;");
        Check.promise(6, "NEWS don't outlast their LORE", 1, x.news(1, -1));
    }

    private static void newsInOrder() {
        NineInMind x = Check.withLore("things 4;inn 3 0 3 1;");
        int[] due = {3, 0, 3, 1};
        for (int k = 0; k < due.length; k++) {
            Check.promise(6, "told there in order, and twice if told twice", due[k], x.news(0, k));
        }
    }

    private static void innsUpToTen() {
        NineInMind x = Check.withLore("things 2;inn;inn;inn;inn;inn;inn;inn;inn;inn;inn 1;");
        Check.promise(48, "10 INNS at most: 10", 10, x.count(2));
        Check.promise(6, "INNS are numbered from 0 on: the last is 9", 1, x.news(9, 0));
        Check.promise(6, "the first is 0", 0, x.news(0, -1));
        bad("an 11th inn: its first TOKEN", "things 2;" + TEN_INNS + "inn 1;", 4, 49);
        bad("an 11th inn, ahead of what follows", "things 2;" + TEN_INNS + " inn 9 #", 4, 50);
    }

    private static void tokensGoOn() {
        well(3, "TOKENS as long as they go on: words end at digits", "things6;rhyme0 3;inn1 2;", 3);
        well(3, "words end at the sign", "things 6;inn;", 2);
        bad("words go on", "things 6;inninn;", 2, 9);
        bad("words go on", "thingsthings 6;", 2, 0);
        well(3, "digits go on", "things 12;", 1);
        bad("a blank ends them", "things 1 2;", 2, 9);
        bad("digits end at letters", "things 6mind 3;", 2, 8);
        bad("each sign is a TOKEN", "things 6;;", 2, 9);
    }

    private static void blanks() {
        well(3, "blanks (10, 32)", "\n things \n 6\n\n;  \ninn\n1 \n0 ;\n ", 2);
        for (int sign : new int[] {0, 9, 11, 12, 13, 31, 33, 127, 128, 138, 160, 255}) {
            bad("no blank, sign " + sign, "things" + (char) sign + "6;", 1, 6);
        }
    }

    private static void words() {
        for (String word : new String[] {"Things", "`", "{", "A", "Z", "_", "" + (char) 225, "" + (char) 250}) {
            bad("words are of small letters", word + " 4;", 1, 0);
        }
        for (String word : new String[] {"a", "z", "thing", "thingsa", "hings", "xthings", "xhings", "thingz", "minds"}) {
            bad("a word that isn't there", word + " 4;", 2, 0);
        }
        for (String word : new String[] {"min", "mindx", "rhym", "rhymes", "secre", "secrets", "wort", "worths", "in",
            "inns", "xind", "xhyme", "xecret", "xorth", "xnn", "rhxme", "innx"}) {
            bad("a word that isn't there", "things 4;" + word + " 0 1;", 2, 9);
        }
    }

    private static void numbersOfDigits() {
        well(3, "N of 1 digit", "things 4;worth 1 9;", 2);
        well(3, "N of 2 digits", "things 04;worth 01 90;", 2);
        well(3, "N of 3 digits", "things 004;worth 003 099;inn 000;", 3);
        bad("N of 4 digits", "things 0004;", 1, 7);
        bad("N of 4 digits: at their first", "things 4;worth 1 0099;", 1, 17);
        bad("N of many digits: at their first", "things 4;worth 1 00000000000000000000000001;", 1, 17);
        bad("4 digits at the end", "things 1000", 1, 7);
        bad("next to the digits", "things /;", 1, 7);
        bad("next to the digits", "things :;", 1, 7);
        bad("no sign ahead of digits", "things -1;", 1, 7);
        bad("no sign ahead of digits", "things +1;", 1, 7);
    }

    private static void signs() {
        for (char sign : new char[] {':', '<', ',', '.', '!'}) {
            bad("the sign ; alone", "things 4" + sign, 1, 8);
        }
    }

    private static void firstFaultCounts() {
        bad("the first along the text: 3 ahead of 1", "things 4;mind 0;#", 3, 14);
        bad("the first along the text: 2 ahead of 1", "things 4;mind;#", 2, 13);
        bad("the first along the text: 4 ahead of 3", "things 4;things 0;", 4, 9);
        bad("the first along the text: 1 ahead of 3", "things 4;worth # 100;", 1, 15);
        bad("the first along the text: 3 ahead of the end", "things 4;mind 0", 3, 14);
    }

    private static void leastKindCounts() {
        bad("1 rather than 2", "things 4;1234", 1, 9);
        bad("1 rather than 2: at the sign's place", "things 4 1234", 1, 9);
        bad("1 rather than 2: ahead of things", "0000", 1, 0);
        bad("1 rather than 3", "things 4;mind 1000;", 1, 14);
        bad("1 rather than 4", "things 4;inn 0 0 0 0 0 0 0 0 0 1234;", 1, 31);
        bad("2 rather than 3", "things 4;mind 3 99;", 2, 16);
        bad("2 rather than 4: things as a number", "things 4;mind things;", 2, 14);
        bad("2 rather than 4: inn within an inn", "things 4;" + TEN_INNS.substring(4) + "inn 1 inn;", 2, 51);
        bad("2 rather than 4: a word behind nine", "things 4;inn 0 0 0 0 0 0 0 0 0 mind;", 2, 31);
        bad("3 rather than 4", "things 4;inn 0 0 0 0 0 0 0 0 0 4;", 3, 31);
    }

    private static void noTokenBeginsSo() {
        bad("no TOKEN begins so: at the beginning", "#", 1, 0);
        bad("no TOKEN begins so: behind a LINE", "things 4;?", 1, 9);
        bad("no TOKEN begins so: within a LINE", "things 4;rhyme 0 _", 1, 17);
        bad("no TOKEN begins so: within a word", "thi-ngs 4;", 2, 0);
        bad("no TOKEN begins so: in place of the sign", "things 4;mind 3,", 1, 15);
        bad("no TOKEN begins so: in an inn", "things 4;inn 3,", 1, 14);
    }

    private static void cannotStandThere() {
        bad("a sign ahead of things", ";", 2, 0);
        bad("a number ahead of things", "7", 2, 0);
        bad("a number as a LINE", "things 4;7;", 2, 9);
        bad("a sign in place of N", "things;", 2, 6);
        bad("a word in place of N", "things four;", 2, 7);
        bad("a word in place of the sign", "things 4 inn;", 2, 9);
        bad("a number in place of the sign", "things 4 4;", 2, 9);
        String[] lines = {"mind", "rhyme", "rhyme 0", "secret", "secret 0", "worth", "worth 0"};
        for (String line : lines) {
            bad("too few N", "things 4;" + line + ";", 2, 9 + line.length());
        }
        for (String line : new String[] {"mind 3", "rhyme 0 1", "secret 0 1", "worth 0 1"}) {
            bad("one N too many", "things 4;" + line + " 1;", 2, 10 + line.length());
        }
    }

    private static void theEnd() {
        String[] texts = {"things", "things 4", "things 4;mind", "things 4;mind 3", "things 4;rhyme", "things 4;rhyme 0",
            "things 4;rhyme 0 1", "things 4;secret 0", "things 4;secret 0 1", "things 4;worth", "things 4;worth 3",
            "things 4;worth 3 0", "things 4;inn", "things 4;inn 3"};
        for (String text : texts) {
            bad("the end: the text's length", text, 2, text.length());
            bad("the end: the text's length, blanks too", text + " \n ", 2, text.length() + 3);
        }
        bad("the end behind nine THINGS of an inn", "things 4;inn 0 0 0 0 0 0 0 0 0", 2, 30);
    }

    private static void outOfBounds() {
        bad("an N out of its bounds, at its first sign", "things 4;mind   010;", 3, 16);
        bad("the first THING of a rhyme", "things 1;rhyme 1 0;", 3, 15);
        bad("the first THING ahead of the second", "things 4;secret 9 9;", 3, 16);
        bad("the second THING of a secret that is the first", "things 16;secret 15 15;", 3, 20);
        bad("a later THING of an inn", "things 4;inn 0 3 4;", 3, 17);
        well(3, "the greatest of all", "things 16;rhyme 15 14;secret 14 15;worth 15 99;inn 15;", 5);
        well(3, "the least of all", "things 2;rhyme 0 1;secret 1 0;worth 0 0;inn 0;mind 1;", 6);
    }

    private static void oneTooMany() {
        bad("the first TOKEN of a second things", "things 4; \nthings", 4, 11);
        bad("of an 11th inn", "things 2;" + TEN_INNS + "mind 3;inn", 4, 56);
        bad("a 10th THING of an inn", "things 9;inn 8 8 8 8 8 8 8 8 8 8", 4, 31);
    }

    private static void firstBytesOfTheTape() {
        NineInMind x = new NineInMind();
        Check.feed(x, "things 3;mind 2;####");
        Check.promise(3, "the first n bytes: the others aren't read", 2, x.lore(16));
        Check.promise(3, "THE TAPE is empty then", 0, x.count(6));
        Check.promise(3, "the others are gone", -3, x.lore(1));
        Check.feed(x, "things 12;");
        Check.promise(3, "a number that is cut", -32, x.lore(8));
        Check.promise(4, "the text's length", 8, x.fault(1));
        Check.feed(x, "things 12;");
        Check.promise(3, "n is one sign short", -32, x.lore(9));
        Check.feed(x, "things 2;innnnnnnnn;");
        Check.promise(3, "a word that is cut", -32, x.lore(12));
        Check.promise(4, "the text's length", 12, x.fault(1));
        Check.feed(x, "things 2;mind 33333;");
        Check.promise(3, "a number that is cut, of more than 3 digits", -32, x.lore(15));
        Check.promise(4, "the text's length", 15, x.fault(1));
        Check.feed(x, "things 12;");
        Check.promise(3, "n is the whole", 1, x.lore(10));
    }

    private static void numberOfBytes() {
        NineInMind x = new NineInMind();
        Check.promise(3, "n 0 of nothing", 0, x.lore(0));
        Check.promise(3, "-3: n above what there is", -3, x.lore(1));
        Check.feed(x, "things 3;");
        Check.promise(3, "-3: n is below 0", -3, x.lore(-1));
        Check.promise(3, "-3: n is far below 0", -3, x.lore(Integer.MIN_VALUE));
        Check.promise(3, "-3: n is one above what there is", -3, x.lore(21));
        Check.promise(3, "-3: n is far above what there is", -3, x.lore(Integer.MAX_VALUE));
        Check.promise(3, "-3: THE TAPE stays", 20, x.count(6));
        Check.promise(3, "-3: nothing was read", 0, x.count(0));
        Check.promise(3, "n is what there is", 1, x.lore(20));
        Check.promise(3, "with a text the LORE is there", 3, x.count(0));
    }

    private static NineInMind withAll() {
        NineInMind x = Check.withLore("things 4;mind 2;worth 0 5;rhyme 1 2;secret 2 3;inn 1;");
        x.comes(2);
        x.hears(0, 3);
        Check.row(x, 0, 1, 2);
        x.piece(0);
        x.image(0);
        return x;
    }

    private static void withoutCouriersAndPieces() {
        NineInMind x = withAll();
        Check.promise(3, "how many LINES", 1, Check.tell(x, "things 4;"));
        Check.promise(3, "without COURIERS", 0, x.count(3));
        Check.promise(3, "without COURIER 0", -2, x.of(0, 0));
        Check.promise(3, "without PIECES", 0, x.count(4));
        Check.promise(3, "without a PIECE's row", 0, x.joined(-1));
        Check.promise(3, "ROWS stay", 4, x.kept(0, 1, 0));
        Check.promise(3, "IMAGES stay", 0, x.restore(0));
        Check.promise(3, "as they were", 1, x.count(3));
        x = withAll();
        Check.promise(3, "no text", 0, x.lore(0));
        Check.promise(3, "no text: without COURIERS", 0, x.count(3));
        Check.promise(3, "no text: without PIECES", 0, x.count(4));
    }

    private static void allStaysWithAFault() {
        NineInMind x = withAll();
        Check.feed(x, "things 9;mind 4;worth 0 7;rhyme 1 3;inn 2;inn 9;");
        Check.promise(3, "a FAULT in the last LINE", -33, x.lore(48));
        int[] counts = {4, 2, 1, 1, 1, 6, 0};
        for (int what = 0; what < counts.length; what++) {
            Check.promise(3, "all stays with a FAULT, count(" + what + ")", counts[what], x.count(what));
        }
        Check.promise(3, "all stays: worth", 5, x.thing(0, 0));
        Check.promise(3, "all stays: rhyme", 4, x.thing(1, 1));
        Check.promise(3, "all stays: secret", 4, x.thing(3, 2));
        Check.promise(3, "all stays: NEWS", 1, x.news(0, 0));
        Check.promise(3, "all stays: MIND", 0x13, Check.mind(x, 0));
        Check.promise(3, "all stays: PIECES", 2, x.joined(1));
        Check.promise(3, "all stays: ROWS", 4, x.kept(0, 1, 0));
        Check.promise(3, "THE TAPE is empty with a FAULT, too", -3, x.lore(1));
    }

    private static void latestLoreThatWasRead() {
        NineInMind x = new NineInMind();
        Check.tell(x, "things 4;mind 0;");
        x.lore(-1);
        x.lore(1);
        Check.promise(4, "refused ones weren't read: FAULT", 3, x.fault(0));
        Check.promise(4, "refused ones weren't read: place", 14, x.fault(1));
        Check.tell(x, "things 4;;");
        Check.promise(4, "the latest: FAULT", 2, x.fault(0));
        Check.promise(4, "the latest: place", 9, x.fault(1));
        Check.tell(x, "things 4;");
        Check.promise(4, "0 without one", 0, x.fault(0));
        Check.promise(4, "NONE without one", -1, x.fault(1));
        Check.tell(x, "#");
        Check.promise(4, "at the beginning: FAULT", 1, x.fault(0));
        Check.promise(4, "at the beginning: place", 0, x.fault(1));
        x.lore(0);
        Check.promise(4, "a text of 0 bytes was read", 0, x.fault(0));
        Check.promise(4, "a text of 0 bytes has no place", -1, x.fault(1));
    }

    private static void otherWhatsOfFault() {
        NineInMind x = new NineInMind();
        Check.tell(x, "things 4;#");
        for (int what : new int[] {-1, 2, 3, 10, Integer.MIN_VALUE, Integer.MAX_VALUE}) {
            Check.promise(4, "NONE for others, " + what, -1, x.fault(what));
        }
    }

    private static void thingRefused() {
        NineInMind x = Check.withLore("things 4;");
        for (int t : new int[] {-1, 4, 16, 32, Integer.MIN_VALUE, Integer.MAX_VALUE}) {
            for (int what = 0; what < 3; what++) {
                Check.promise(5, "-2: no THING " + t, -2, x.thing(t, what));
            }
        }
        for (int what : new int[] {-1, 3, Integer.MIN_VALUE, Integer.MAX_VALUE}) {
            Check.promise(5, "-2: no such what " + what, -2, x.thing(0, what));
        }
    }

    private static void newsRefused() {
        NineInMind x = Check.withLore("things 4;inn 3 2;inn;");
        for (int inn : new int[] {-1, 2, 10, Integer.MIN_VALUE, Integer.MAX_VALUE}) {
            for (int k : new int[] {-2, -1, 0, 99}) {
                Check.promise(6, "-2: no such INN " + inn, -2, x.news(inn, k));
            }
        }
        Check.promise(6, "k NONE: how many", 2, x.news(0, NineInMind.NONE));
        Check.promise(6, "the last", 2, x.news(0, 1));
        for (int k : new int[] {2, 9, -2, Integer.MIN_VALUE, Integer.MAX_VALUE}) {
            Check.promise(6, "-7: not so many, " + k, -7, x.news(0, k));
        }
        Check.promise(6, "-7: none at all", -7, x.news(1, 0));
    }
}
