import java.util.Random;

/** Runs of drawn calls (the seeds are fixed): each answer must be that of the Model. */
public final class RandomRunsTest {
    private static final int RUNS = 700;
    private static final int CALLS = 500;
    private static final int[] FAR = {Integer.MIN_VALUE, Integer.MIN_VALUE + 1, -65536, -64, -3, -2, 31, 32, 33, 63, 64,
        256, 65535, 65536, 1 << 30, Integer.MAX_VALUE - 10, Integer.MAX_VALUE - 1, Integer.MAX_VALUE};

    private final Random random;
    private final NineInMind x = new NineInMind();
    private final Model m = new Model();
    private final int run;
    /** Now and then a run in which arguments are often far outside. */
    private final boolean wild;
    private int call;

    private RandomRunsTest(int run) {
        this.run = run;
        wild = run % 5 == 0;
        random = new Random(run);
    }

    public static void main(String[] args) {
        int runs = args.length > 0 ? Integer.parseInt(args[0]) : RUNS;
        for (int run = 0; run < runs; run++) {
            new RandomRunsTest(run).go();
        }
        Check.end("RandomRunsTest");
    }

    private void go() {
        tell(Texts.drawn(random));
        for (int c = 0; c < random.nextInt(7); c++) {
            same("comes", m.comes(2), x.comes(2));
        }
        while (call < CALLS) {
            step();
        }
    }

    private void same(String name, long want, long got, long... args) {
        call++;
        StringBuilder s = new StringBuilder("run " + run + " call " + call + " " + name + "(");
        for (int i = 0; i < args.length; i++) {
            s.append(i == 0 ? "" : ", ").append(args[i]);
        }
        Check.due(s.append(")").toString(), want, got);
    }

    private void tell(String text) {
        for (int at = 0; at < text.length(); at += 20) {
            int[] v = new int[5];
            for (int i = 0; i < 5; i++) {
                v[i] = Check.four(text, at + 4 * i);
            }
            same("feed", m.feed(v[0], v[1], v[2], v[3], v[4]), x.feed(v[0], v[1], v[2], v[3], v[4]));
        }
        int n = text.length();
        same("lore of \"" + text + "\"", m.lore(n), x.lore(n), n);
        same("fault", m.fault(0), x.fault(0), 0);
        same("fault", m.fault(1), x.fault(1), 1);
    }

    /** Mostly within the bounds, now and then just or far outside. */
    private int near(int bound) {
        int which = random.nextInt(40);
        if (which == 0) {
            return -1;
        }
        if (which == 1) {
            return bound;
        }
        if (which == 2) {
            return random.nextInt(3) == 0 ? random.nextInt() : bound + random.nextInt(3);
        }
        if (wild && which < 10) {
            return FAR[random.nextInt(FAR.length)];
        }
        return random.nextInt(Math.max(bound, 1));
    }

    private int anyThing() {
        return near(m.tale.things);
    }

    private int anyInn() {
        return near(m.tale.inns.size());
    }

    private int anyMan() {
        return near(m.men.size());
    }

    private int anyRow() {
        return near(4);
    }

    private int anySet(int most) {
        if (random.nextInt(20) == 0) {
            return near(1 << m.tale.things);
        }
        int set = 0;
        for (int i = random.nextInt(most + 1); i > 0; i--) {
            set |= 1 << random.nextInt(Math.max(m.tale.things, 1));
        }
        return m.tale.things == 0 ? random.nextInt(2) : set;
    }

    private int anyPlace(int most) {
        return random.nextInt(3) == 0 ? near(2) : 10 + near(most);
    }

    private void writeRow() {
        int row = anyRow();
        int sort = near(4);
        int n = random.nextInt(8) == 0 ? near(41) : random.nextInt(13);
        same("numbers", m.numbers(row, sort, n), x.numbers(row, sort, n), row, sort, n);
        boolean acts = random.nextInt(3) == 0;
        int unlike = 1 + random.nextInt(16);
        for (int i = 0; i < Math.min(n, 40); i++) {
            long v = random.nextInt(Math.max(1, Math.min(m.tale.things, unlike)));
            if (acts) {
                v = drawnAct();
            }
            if (random.nextInt(150) == 0) {
                v = random.nextLong();
            }
            same("write", m.write(row, i, v), x.write(row, i, v), row, i, v);
        }
    }

    private long drawnAct() {
        switch (random.nextInt(4)) {
            case 0:
                return anyThing();
            case 1:
                return 20 + anyThing();
            case 2:
                return 40 + anyInn();
            default:
                return 60 + anyMan();
        }
    }

    private void step() {
        int which = random.nextInt(56);
        if (which < 16) {
            moveOn(which);
        } else if (which < 32) {
            ask(which - 16);
        } else if (which < 48) {
            find(which - 32);
        } else if (which < 52) {
            writeRow();
        } else {
            look();
        }
    }

    private void moveOn(int which) {
        int c = anyMan();
        int t = anyThing();
        int i = anyInn();
        int r = anyRow();
        switch (which) {
            case 0, 1, 2:
                same("hears", m.hears(c, t), x.hears(c, t), c, t);
                break;
            case 3, 4:
                same("says", m.says(c, t), x.says(c, t), c, t);
                break;
            case 5, 6:
                int other = anyMan();
                same("tells", m.tells(c, other, t), x.tells(c, other, t), c, other, t);
                break;
            case 7:
                same("walks", m.walks(c, i), x.walks(c, i), c, i);
                break;
            case 8:
                same("recites", m.recites(c, r), x.recites(c, r), c, r);
                break;
            case 9:
                same("delivers", m.delivers(c), x.delivers(c), c);
                break;
            case 10:
                same("perform", m.perform(c, r), x.perform(c, r), c, r);
                break;
            case 11:
                int seed = random.nextInt();
                int times = near(41);
                same("day", m.day(seed, times), x.day(seed, times), seed, times);
                break;
            case 12, 13:
                int size = near(m.tale.mind + 1);
                same("comes", m.comes(size), x.comes(size), size);
                break;
            case 14:
                same("copy", m.copy(c, r), x.copy(c, r), c, r);
                break;
            default:
                moveFar();
                break;
        }
    }

    private void moveFar() {
        int i = near(2);
        switch (random.nextInt(6)) {
            case 0:
                tell(Texts.drawn(random));
                break;
            case 1:
                tell(Texts.spoilt(random));
                break;
            case 2:
                same("image", m.image(i), x.image(i), i);
                break;
            case 3:
                same("restore", m.restore(i), x.restore(i), i);
                break;
            case 4:
                int n = near(40);
                same("lore", m.lore(n), x.lore(n), n);
                break;
            default:
                int v = random.nextInt();
                same("feed", m.feed(v, v, v, v, v), x.feed(v, v, v, v, v), v, v, v, v, v);
                break;
        }
    }

    private void ask(int which) {
        int c = anyMan();
        int other = anyMan();
        int t = anyThing();
        int i = anyInn();
        int r = anyRow();
        switch (which) {
            case 0:
                int k = near(9);
                same("thing", m.thing(t, k % 4), x.thing(t, k % 4), t, k % 4);
                same("news", m.news(i, k), x.news(i, k), i, k);
                break;
            case 1:
                same("breach", m.breach(), x.breach());
                break;
            case 2:
                same("risk", m.risk(c, t), x.risk(c, t), c, t);
                break;
            case 3:
                int to = anyInn();
                same("loud", m.loud(i, to), x.loud(i, to), i, to);
                break;
            case 4:
                same("turned", m.turned(c, other), x.turned(c, other), c, other);
                break;
            case 5, 6:
                int what = near(4);
                same("judge", m.judge(c, r, what), x.judge(c, r, what), c, r, what);
                break;
            case 7, 8:
                int place = anyPlace(3);
                same("road", m.road(c, i, place), x.road(c, i, place), c, i, place);
                break;
            case 9, 10:
                int p = anyPlace(3);
                int q = near(4);
                same("questions", m.questions(c, other, q, p), x.questions(c, other, q, p), c, other, q, p);
                break;
            case 11:
                int wanted = anySet(16);
                same("asked", m.asked(wanted), x.asked(wanted), wanted);
                same("broken", m.broken(c, wanted), x.broken(c, wanted), c, wanted);
                break;
            case 12:
                same("piece", m.piece(r), x.piece(r), r);
                break;
            case 13:
                int j = random.nextInt(4) == 0 ? -1 : near(12);
                same("joined", m.joined(j), x.joined(j), j);
                break;
            case 14:
                same("unfit", m.unfit(), x.unfit());
                break;
            default:
                same("gaps", m.gaps(), x.gaps());
                break;
        }
    }

    private void find(int which) {
        int r = anyRow();
        int size = near(10);
        int law = near(3);
        int i = anyInn();
        switch (which) {
            case 0, 1, 2:
                same("fresh", m.fresh(r, size, law), x.fresh(r, size, law), r, size, law);
                break;
            case 3:
                same("kept", m.kept(r, size, law), x.kept(r, size, law), r, size, law);
                break;
            case 4:
                same("less", m.less(r), x.less(r), r);
                break;
            case 5:
                int many = near(12);
                same("enough", m.enough(r, many, law), x.enough(r, many, law), r, many, law);
                break;
            case 6:
                int place = near(10);
                same("farBack", m.farBack(r, place), x.farBack(r, place), r, place);
                break;
            case 7:
                same("through", m.through(r, size, i), x.through(r, size, i), r, size, i);
                break;
            case 8:
                same("sizeFor", m.sizeFor(r, i), x.sizeFor(r, i), r, i);
                break;
            case 9, 10:
                int set = anySet(random.nextInt(4) == 0 ? 7 : 4);
                int what = anyPlace(6);
                same("told", m.told(set, size, i, what), x.told(set, size, i, what), set, size, i, what);
                break;
            case 11:
                int any = anySet(9);
                same("back", m.back(any), x.back(any), any);
                break;
            case 12:
                int w = anySet(16);
                if (random.nextInt(8) == 0) {
                    same("seeds", m.seeds(w), x.seeds(w), w);
                }
                break;
            default:
                askMen(near(random.nextBoolean() ? 10 : 4));
                break;
        }
    }

    private void askMen(int each) {
        boolean doubled = random.nextInt(3) == 0;
        int wanted = anySet(doubled ? 7 : 10);
        int man = near(8);
        long flag = doubled ? 1 : 0;
        same("men", m.men(wanted, each, doubled), x.men(wanted, each, doubled), wanted, each, flag);
        same("load", m.load(wanted, each, doubled, man), x.load(wanted, each, doubled, man), wanted, each, flag, man);
    }

    private void look() {
        int what = near(7);
        same("count", m.count(what), x.count(what), what);
        same("fault", m.fault(what), x.fault(what), what);
        int c = anyMan();
        for (int k = -1; k < 21; k++) {
            same("of", m.of(c, k), x.of(c, k), c, k);
        }
        int t = anyThing();
        same("lost", m.lost(c, t), x.lost(c, t), c, t);
    }
}
