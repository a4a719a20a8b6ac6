import java.util.Random;

/** Drawn texts of a lore. */
final class Texts {
    private static final String[] WORDS = {"things", "mind", "rhyme", "secret", "worth", "inn"};

    private Texts() {
    }

    private static String blanks(Random random) {
        int which = random.nextInt(12);
        return which == 0 ? "  " : which == 1 ? "\n" : " ";
    }

    private static int unlike(Random random, int things, int t) {
        return (t + 1 + random.nextInt(things - 1)) % things;
    }

    /** A text without a FAULT, of at most 500 bytes. */
    static String drawn(Random random) {
        int things = 1 + random.nextInt(random.nextBoolean() ? 16 : 7);
        StringBuilder s = new StringBuilder("things " + things + ";");
        int inns = random.nextInt(random.nextInt(3) == 0 ? 11 : 4);
        int rhymes = random.nextInt(12);
        int secrets = random.nextInt(random.nextInt(3) == 0 ? 30 : 8);
        int worths = random.nextInt(12);
        int told = 0;
        for (int i = 0; i < 70; i++) {
            String line = null;
            int t = random.nextInt(things);
            int which = random.nextInt(40);
            if (which < 2) {
                line = "mind" + blanks(random) + (1 + random.nextInt(9));
            } else if (which < 10 && told < inns) {
                told++;
                line = inn(random, things);
            } else if (which < 20 && rhymes > 0 && things > 1) {
                rhymes--;
                line = "rhyme" + blanks(random) + t + blanks(random) + unlike(random, things, t);
            } else if (which < 30 && secrets > 0 && things > 1) {
                secrets--;
                line = "secret" + blanks(random) + t + blanks(random) + unlike(random, things, t);
            } else if (worths > 0) {
                worths--;
                line = "worth" + t + blanks(random) + random.nextInt(100);
            }
            if (line != null && s.length() + line.length() < 490) {
                s.append(line).append(random.nextInt(10) == 0 ? " ;\n" : ";");
            }
        }
        return s.toString();
    }

    private static String inn(Random random, int things) {
        StringBuilder s = new StringBuilder("inn");
        int many = random.nextInt(random.nextInt(3) == 0 ? 10 : 4);
        for (int k = 0; k < many; k++) {
            s.append(blanks(random)).append(random.nextInt(things));
        }
        return s.toString();
    }

    /** A text into which something has come that may be a FAULT. */
    static String spoilt(Random random) {
        StringBuilder s = new StringBuilder(drawn(random));
        for (int times = 1 + random.nextInt(2); times > 0; times--) {
            int at = random.nextInt(s.length());
            switch (random.nextInt(6)) {
                case 0:
                    s.deleteCharAt(at);
                    break;
                case 1:
                    s.setCharAt(at, (char) ('0' + random.nextInt(11)));
                    break;
                case 2:
                    s.insert(at, (char) ('0' + random.nextInt(10)));
                    break;
                case 3:
                    s.insert(at, random.nextBoolean() ? ";" : " ");
                    break;
                case 4:
                    s.insert(at, WORDS[random.nextInt(6)]);
                    break;
                default:
                    s.setCharAt(at, (char) random.nextInt(256));
                    break;
            }
            if (s.length() == 0) {
                s.append(' ');
            }
        }
        if (random.nextInt(4) == 0) {
            s.setLength(random.nextInt(s.length()) + 1);
        }
        s.setLength(Math.min(s.length(), 500));
        return s.toString();
    }
}
