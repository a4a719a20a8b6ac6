/** Counts answers that are not the due ones; a test ends with exit code 1 if there was one. */
final class Check {
    private static int asked = 0;
    private static int wrong = 0;

    private Check() {
    }

    static void due(String call, long want, long got) {
        asked++;
        if (got != want) {
            wrong++;
            if (wrong <= 40) {
                System.out.println(call + " answered " + got + ", due is " + want);
            }
        }
    }

    /** The answer that one sentence of a promise asks for. */
    static void promise(int number, String sentence, long want, long got) {
        due("promise " + number + ": " + sentence + ":", want, got);
    }

    static void end(String name) {
        System.out.println(name + ": " + asked + " answers, " + wrong + " of them wrong");
        if (wrong != 0 || asked == 0) {
            System.exit(1);
        }
    }

    static NineInMind withLore(String text) {
        NineInMind x = new NineInMind();
        int lines = tell(x, text);
        if (lines < 0) {
            due("lore \"" + text + "\"", 0, lines);
        }
        return x;
    }

    static NineInMind with(String text, int... sizes) {
        NineInMind x = withLore(text);
        for (int size : sizes) {
            x.comes(size);
        }
        return x;
    }

    /** Each of these rows is put as a PIECE, by way of ROW 0. */
    static NineInMind withPieces(String text, long[]... pieces) {
        NineInMind x = withLore(text);
        for (long[] piece : pieces) {
            row(x, 0, piece);
            x.piece(0);
        }
        return x;
    }

    /** Puts a text on an empty tape and reads it. */
    static int tell(NineInMind x, String text) {
        feed(x, text);
        return x.lore(text.length());
    }

    static void feed(NineInMind x, String text) {
        for (int at = 0; at < text.length(); at += 20) {
            x.feed(four(text, at), four(text, at + 4), four(text, at + 8), four(text, at + 12), four(text, at + 16));
        }
    }

    static int four(String text, int at) {
        int bits = 0;
        for (int i = at; i < at + 4; i++) {
            bits = bits << 8 | (i < text.length() ? text.charAt(i) & 255 : ' ');
        }
        return bits;
    }

    static void row(NineInMind x, int row, long... numbers) {
        x.numbers(row, 3, numbers.length);
        for (int i = 0; i < numbers.length; i++) {
            x.write(row, i, numbers[i]);
        }
    }

    /** The MIND of a courier as digits of base 16, the latest first, behind a 1. */
    static long mind(NineInMind x, int c) {
        long digits = 1;
        for (int k = 0; k < x.of(c, 2); k++) {
            digits = digits << 4 | x.of(c, 10 + k);
        }
        return digits;
    }

    static void hear(NineInMind x, int c, int... things) {
        for (int t : things) {
            x.hears(c, t);
        }
    }
}
