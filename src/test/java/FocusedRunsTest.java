import java.util.Random;

/** Drawn cases where a search has to choose well: each answer must be that of the Model. */
public final class FocusedRunsTest {
    private final Random random;
    private NineInMind x = new NineInMind();
    private Model m = new Model();

    private FocusedRunsTest(long seed) {
        random = new Random(seed);
    }

    public static void main(String[] args) {
        int times = args.length > 0 ? Integer.parseInt(args[0]) : 1;
        for (int i = 0; i < 400 * times; i++) {
            FocusedRunsTest t = new FocusedRunsTest(i);
            t.pieces();
            t.hearings();
            t.roads();
            if (i % 4 == 0) {
                t.men();
            }
            if (i % 10 == 0) {
                t.seeds();
            }
        }
        Check.end("FocusedRunsTest");
    }

    private String tell(String text) {
        x = Check.withLore(text);
        m = new Model();
        m.tape.append(text);
        m.lore(text.length());
        return text + ": ";
    }

    private void row(int row, int n, int unlike) {
        m.numbers(row, 0, n);
        x.numbers(row, 0, n);
        for (int i = 0; i < n; i++) {
            long v = random.nextInt(unlike);
            m.write(row, i, v);
            x.write(row, i, v);
        }
    }

    private void pieces() {
        int things = 1 + random.nextInt(5);
        tell("things " + things + ";");
        int many = 1 + random.nextInt(6);
        int most = 2 + random.nextInt(7);
        StringBuilder told = new StringBuilder("pieces");
        for (int p = 0; p < many; p++) {
            row(0, 1 + random.nextInt(most), things);
            Check.due("piece", m.piece(0), x.piece(0));
            told.append(' ').append(m.pieces.get(p));
        }
        for (int k = -2; k <= m.joined(-1); k++) {
            Check.due(told + " joined(" + k + ")", m.joined(k), x.joined(k));
        }
        Check.due(told + " unfit()", m.unfit(), x.unfit());
        Check.due(told + " gaps()", m.gaps(), x.gaps());
    }

    private void hearings() {
        String told = tell("things 16;");
        int unlike = 2 + random.nextInt(9);
        row(0, 5 + random.nextInt(36), unlike);
        told = told + Model.list(m.rows[0]) + " ";
        Check.due(told + "less", m.less(0), x.less(0));
        for (int size = 1; size <= 9; size++) {
            for (int law = 0; law < 3; law++) {
                Check.due(told + "fresh " + size + " " + law, m.fresh(0, size, law), x.fresh(0, size, law));
                Check.due(told + "kept " + size + " " + law, m.kept(0, size, law), x.kept(0, size, law));
            }
        }
        int many = random.nextInt(30);
        for (int law = 0; law < 3; law++) {
            Check.due(told + "enough " + many + " " + law, m.enough(0, many, law), x.enough(0, many, law));
        }
        for (int i = 0; i < m.rows[0].length; i++) {
            Check.due(told + "farBack " + i, m.farBack(0, i), x.farBack(0, i));
        }
    }

    private String pairs(String word, int things, int many) {
        StringBuilder s = new StringBuilder();
        for (int i = 0; i < many && s.length() < 470; i++) {
            int t = random.nextInt(things);
            int u = random.nextInt(things);
            if (t != u) {
                s.append(word).append(t).append(' ').append(u).append(';');
            }
        }
        return s.toString();
    }

    private void roads() {
        int things = 4 + random.nextInt(7);
        StringBuilder s = new StringBuilder("things" + things + ";" + pairs("rhyme", things, random.nextInt(14)));
        for (int t = 0; t < things; t++) {
            s.append("worth").append(t).append(' ').append(random.nextInt(5)).append(';');
        }
        int inns = 1 + random.nextInt(4);
        for (int i = 0; i < inns; i++) {
            s.append("inn");
            for (int k = random.nextInt(4); k > 0; k--) {
                s.append(' ').append(random.nextInt(things));
            }
            s.append(';');
        }
        String told = tell(s.toString());
        for (int c = 0; c < 2; c++) {
            int size = 1 + random.nextInt(6);
            m.comes(size);
            x.comes(size);
            for (int k = 0; k < 8; k++) {
                int t = random.nextInt(things);
                Check.due(told + "hears", m.hears(c, t), x.hears(c, t));
            }
        }
        int[] whats = {0, 1, 10, 11, 12};
        int inn = random.nextInt(inns);
        int q = random.nextInt(4);
        for (int what : whats) {
            Check.due(told + "road " + inn + " " + what, m.road(0, inn, what), x.road(0, inn, what));
            Check.due(told + "questions " + q + " " + what, m.questions(0, 1, q, what), x.questions(0, 1, q, what));
        }
        int set = random.nextInt(1 << things);
        int size = 1 + random.nextInt(6);
        for (int what : new int[] {0, 1, 10, 11, 12, 13, 14, 15}) {
            if (Integer.bitCount(set) < 6) {
                Check.due(told + "told " + set + " " + size + " " + inn + " " + what,
                        m.told(set, size, inn, what), x.told(set, size, inn, what));
            }
        }
    }

    private void men() {
        int things = 5 + random.nextInt(6);
        String told = tell("things" + things + ";" + pairs("secret", things, random.nextInt(48)));
        boolean doubled = random.nextInt(3) == 0;
        int wanted = (1 << (doubled ? Math.min(things, 7) : things)) - 1;
        if (random.nextBoolean()) {
            // the same among higher numbers
            things = 16;
            wanted <<= 16 - Integer.bitCount(wanted);
            told = tell("things16;" + pairs("secret", 16, 47));
        }
        for (int each = 1; each <= 9; each += 1 + random.nextInt(3)) {
            int many = m.men(wanted, each, doubled);
            String call = told + wanted + " " + each + " " + doubled + " ";
            Check.due(call + "men", many, x.men(wanted, each, doubled));
            for (int man = 0; man <= many; man++) {
                Check.due(call + "load " + man, m.load(wanted, each, doubled, man), x.load(wanted, each, doubled, man));
            }
        }
    }

    private void seeds() {
        int things = 10 + random.nextInt(7);
        String told = tell("things" + things + ";" + pairs("rhyme", things, random.nextInt(24)));
        for (int i = 0; i < 6; i++) {
            int wanted = i == 0 ? (1 << things) - 1 : random.nextInt(1 << things);
            Check.due(told + "seeds " + wanted, m.seeds(wanted), x.seeds(wanted));
        }
    }
}
