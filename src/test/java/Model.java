import java.util.ArrayDeque;
import java.util.ArrayList;
import java.util.HashMap;
import java.util.HashSet;
import java.util.List;
import java.util.Map;
import java.util.Set;
import java.util.TreeSet;
import java.util.function.ToIntFunction;
import java.util.regex.Matcher;
import java.util.regex.Pattern;

/** The document once more, in the most roundabout and therefore plainest way: all that can be is tried. */
final class Model {
    static final int NONE = -1;

    static final class Fault extends Exception {
        final int kind;
        final int place;

        Fault(int kind, int place) {
            this.kind = kind;
            this.place = place;
        }
    }

    static final class Man {
        int size;
        int inn;
        List<Integer> mind = new ArrayList<>();
        int losses;
        Map<Integer, Integer> lostIn = new HashMap<>();

        Man(int size) {
            this.size = size;
        }

        Man twin() {
            Man m = new Man(size);
            m.inn = inn;
            m.mind = new ArrayList<>(mind);
            m.losses = losses;
            m.lostIn = new HashMap<>(lostIn);
            return m;
        }

        int bits() {
            int b = 0;
            for (int t : mind) {
                b |= 1 << t;
            }
            return b;
        }

        int hear(int t) {
            mind.remove((Integer) t);
            mind.add(0, t);
            if (mind.size() <= size) {
                return NONE;
            }
            int gone = mind.remove(mind.size() - 1);
            losses++;
            lostIn.put(gone, inn);
            return gone;
        }
    }

    static final class Tale {
        int things = 0;
        int mind = 9;
        int lines = 0;
        List<TreeSet<Integer>> rhymes = new ArrayList<>();
        List<TreeSet<Integer>> secrets = new ArrayList<>();
        List<Integer> worths = new ArrayList<>();
        List<List<Integer>> inns = new ArrayList<>();

        boolean is(long t) {
            return t >= 0 && t < things;
        }

        boolean isInn(long i) {
            return i >= 0 && i < inns.size();
        }

        boolean isSet(int set) {
            return set >= 0 && set < 1 << things;
        }

        int worth(int bits) {
            int sum = 0;
            for (int t = 0; t < things; t++) {
                if ((bits >> t) % 2 == 1) {
                    sum += worths.get(t);
                }
            }
            return sum;
        }

        boolean breach(int bits) {
            for (int t = 0; t < things; t++) {
                for (int u : secrets.get(t)) {
                    if ((bits >> t) % 2 == 1 && (bits >> u) % 2 == 1) {
                        return true;
                    }
                }
            }
            return false;
        }

        int say(Man m, int t) {
            int before = m.losses;
            m.hear(t);
            for (int r : rhymes.get(t)) {
                m.hear(r);
            }
            return m.losses - before;
        }

        int walk(Man m, int to) {
            int before = m.losses;
            while (m.inn != to) {
                m.inn += Integer.signum(to - m.inn);
                for (int t : inns.get(m.inn)) {
                    m.hear(t);
                }
            }
            return m.losses - before;
        }

        int deliver(Man m) {
            List<Integer> now = new ArrayList<>(m.mind);
            int court = 0;
            for (int k = now.size() - 1; k >= 0; k--) {
                int t = now.get(k);
                if (m.mind.contains(t)) {
                    say(m, t);
                    court |= 1 << t;
                    for (int r : rhymes.get(t)) {
                        court |= 1 << r;
                    }
                }
            }
            return court;
        }
    }

    static final class Snap {
        Tale tale;
        List<Man> men;
        List<List<Integer>> pieces;
    }

    StringBuilder tape = new StringBuilder();
    int fault = 0;
    int faultAt = NONE;
    Tale tale = new Tale();
    List<Man> men = new ArrayList<>();
    List<List<Integer>> pieces = new ArrayList<>();
    long[][] rows = new long[4][];
    int[] sorts = new int[4];
    Snap[] snaps = new Snap[2];

    // ---- the lore

    int feed(int a, int b, int c, int d, int e) {
        if (tape.length() > 480) {
            return -5;
        }
        for (int v : new int[] {a, b, c, d, e}) {
            for (int k = 3; k >= 0; k--) {
                tape.append((char) (v >> 8 * k & 255));
            }
        }
        return tape.length();
    }

    int lore(int n) {
        if (n < 0 || n > tape.length()) {
            return -3;
        }
        String text = tape.substring(0, n);
        tape.setLength(0);
        try {
            Tale read = read(text);
            tale = read;
            men.clear();
            pieces.clear();
            fault = 0;
            faultAt = NONE;
            return tale.lines;
        } catch (Fault f) {
            fault = f.kind;
            faultAt = f.place;
            return -30 - f.kind;
        }
    }

    static final Pattern TOKEN = Pattern.compile("([a-z]+)|([0-9]+)|(;)|([^ \n])");

    static Tale read(String text) throws Fault {
        List<String> tokens = new ArrayList<>();
        List<Integer> places = new ArrayList<>();
        Matcher m = TOKEN.matcher(text);
        while (m.find()) {
            tokens.add(m.group());
            places.add(m.start());
        }
        tokens.add("");
        places.add(text.length());
        Tale tale = new Tale();
        int i = 0;
        while (!tokens.get(i).isEmpty()) {
            i = readLine(tale, tokens, places, i);
            tale.lines++;
        }
        return tale;
    }

    static void stands(String token, int place, String form) throws Fault {
        if (!token.matches("[a-z]+|[0-9]{1,3}|;|")) {
            throw new Fault(1, place);
        }
        if (!token.matches(form)) {
            throw new Fault(2, place);
        }
    }

    static int number(List<String> tokens, List<Integer> places, int i, int least, int most) throws Fault {
        stands(tokens.get(i), places.get(i), "[0-9]+");
        int n = Integer.parseInt(tokens.get(i));
        if (n < least || n > most) {
            throw new Fault(3, places.get(i));
        }
        return n;
    }

    static int readLine(Tale tale, List<String> tokens, List<Integer> places, int first) throws Fault {
        int i = first;
        String word = tokens.get(i);
        stands(word, places.get(i), tale.things == 0 ? "things" : "things|mind|rhyme|secret|worth|inn");
        if (word.equals("things") && tale.things > 0 || word.equals("inn") && tale.inns.size() == 10) {
            throw new Fault(4, places.get(i));
        }
        i++;
        int last = tale.things - 1;
        if (word.equals("things")) {
            tale.things = number(tokens, places, i++, 1, 16);
            for (int t = 0; t < tale.things; t++) {
                tale.rhymes.add(new TreeSet<>());
                tale.secrets.add(new TreeSet<>());
                tale.worths.add(1);
            }
        } else if (word.equals("mind")) {
            tale.mind = number(tokens, places, i++, 1, 9);
        } else if (word.equals("worth")) {
            int t = number(tokens, places, i++, 0, last);
            tale.worths.set(t, number(tokens, places, i++, 0, 99));
        } else if (word.equals("inn")) {
            List<Integer> news = new ArrayList<>();
            tale.inns.add(news);
            while (!tokens.get(i).equals(";")) {
                int t = number(tokens, places, i, 0, last);
                if (news.size() == 9) {
                    throw new Fault(4, places.get(i));
                }
                news.add(t);
                i++;
            }
        } else {
            int t = number(tokens, places, i++, 0, last);
            int u = number(tokens, places, i, 0, last);
            if (t == u) {
                throw new Fault(3, places.get(i));
            }
            i++;
            if (word.equals("rhyme")) {
                tale.rhymes.get(t).add(u);
            } else {
                tale.secrets.get(t).add(u);
                tale.secrets.get(u).add(t);
            }
        }
        stands(tokens.get(i), places.get(i), ";");
        return i + 1;
    }

    int fault(int what) {
        return what == 0 ? fault : what == 1 ? faultAt : NONE;
    }

    static int bits(Iterable<Integer> set) {
        int b = 0;
        for (int t : set) {
            b |= 1 << t;
        }
        return b;
    }

    int thing(int t, int what) {
        if (!tale.is(t) || what < 0 || what > 2) {
            return -2;
        }
        return what == 0 ? tale.worths.get(t) : what == 1 ? bits(tale.rhymes.get(t)) : bits(tale.secrets.get(t));
    }

    int news(int inn, int k) {
        if (!tale.isInn(inn)) {
            return -2;
        }
        List<Integer> news = tale.inns.get(inn);
        return k == NONE ? news.size() : k < 0 || k >= news.size() ? -7 : news.get(k);
    }

    // ---- couriers

    boolean man(int c) {
        return c >= 0 && c < men.size();
    }

    int comes(int size) {
        if (men.size() == 6) {
            return -4;
        }
        if (tale.things == 0) {
            return -5;
        }
        if (size < 1 || size > tale.mind) {
            return -3;
        }
        men.add(new Man(size));
        return men.size() - 1;
    }

    int of(int c, int what) {
        if (!man(c) || what < 0 || what > 5 && what < 10) {
            return -2;
        }
        Man m = men.get(c);
        if (what >= 10) {
            return what - 10 < m.mind.size() ? m.mind.get(what - 10) : -7;
        }
        return new int[] {m.size, m.inn, m.mind.size(), m.bits(), tale.worth(m.bits()), m.losses}[what];
    }

    int lost(int c, int t) {
        return !man(c) || !tale.is(t) ? -2 : men.get(c).lostIn.getOrDefault(t, NONE);
    }

    int hears(int c, int t) {
        return !man(c) || !tale.is(t) ? -2 : men.get(c).hear(t);
    }

    int says(int c, int t) {
        if (!man(c) || !tale.is(t)) {
            return -2;
        }
        return men.get(c).mind.contains(t) ? tale.say(men.get(c), t) : -5;
    }

    int tells(int c, int other, int t) {
        if (!man(c) || !man(other) || c == other || !tale.is(t)) {
            return -2;
        }
        if (!men.get(c).mind.contains(t) || men.get(c).inn != men.get(other).inn) {
            return -5;
        }
        int gone = tale.say(men.get(c), t);
        return gone + (men.get(other).hear(t) == NONE ? 0 : 1);
    }

    int walks(int c, int inn) {
        return !man(c) || !tale.isInn(inn) ? -2 : tale.walk(men.get(c), inn);
    }

    int row(int row) {
        return row < 0 || row > 3 ? -2 : rows[row] == null ? -6 : 0;
    }

    int recites(int c, int row) {
        if (!man(c)) {
            return -2;
        }
        if (row(row) != 0) {
            return row(row);
        }
        int said = 0;
        for (long v : rows[row]) {
            if (v >= 0 && v < 16 && men.get(c).mind.contains((int) v)) {
                tale.say(men.get(c), (int) v);
                said++;
            }
        }
        return said;
    }

    int delivers(int c) {
        return man(c) ? tale.deliver(men.get(c)) : -2;
    }

    int breach() {
        int least = Integer.MAX_VALUE;
        for (int c = 0; c < men.size(); c++) {
            for (int t : men.get(c).mind) {
                for (int u : men.get(c).mind) {
                    if (tale.secrets.get(t).contains(u)) {
                        least = Math.min(least, 1000 * c + 20 * t + u);
                    }
                }
            }
        }
        return least == Integer.MAX_VALUE ? NONE : least;
    }

    int risk(int c, int t) {
        if (!man(c) || !tale.is(t)) {
            return -2;
        }
        Man m = men.get(c).twin();
        m.hear(t);
        return tale.breach(m.bits()) ? 1 : 0;
    }

    int loud(int inn, int other) {
        if (!tale.isInn(inn) || !tale.isInn(other)) {
            return -2;
        }
        Set<Integer> heard = new HashSet<>();
        for (int i = Math.min(inn, other); i <= Math.max(inn, other); i++) {
            if (i != inn) {
                heard.addAll(tale.inns.get(i));
            }
        }
        return heard.size();
    }

    int turned(int c, int other) {
        if (!man(c) || !man(other)) {
            return -2;
        }
        List<Integer> a = men.get(c).mind;
        List<Integer> b = men.get(other).mind;
        int pairs = 0;
        for (int t = 0; t < tale.things; t++) {
            for (int u = 0; u < t; u++) {
                if (a.contains(t) && a.contains(u) && b.contains(t) && b.contains(u)
                        && (a.indexOf(t) - a.indexOf(u)) * (b.indexOf(t) - b.indexOf(u)) < 0) {
                    pairs++;
                }
            }
        }
        return pairs;
    }

    boolean act(List<Man> all, int c, long v) {
        Man m = all.get(c);
        if (v >= 0 && v <= 15) {
            if (!tale.is(v)) {
                return false;
            }
            m.hear((int) v);
            return true;
        }
        if (v >= 20 && v <= 35) {
            if (!m.mind.contains((int) v - 20)) {
                return false;
            }
            tale.say(m, (int) v - 20);
            return true;
        }
        if (v >= 40 && v <= 49) {
            if (!tale.isInn(v - 40)) {
                return false;
            }
            tale.walk(m, (int) v - 40);
            return true;
        }
        if (v < 60 || v >= 60 + all.size() || v == 60 + c || all.get((int) v - 60).inn != m.inn) {
            return false;
        }
        Man teller = all.get((int) v - 60);
        for (int t : new ArrayList<>(teller.mind)) {
            if (teller.mind.contains(t)) {
                tale.say(teller, t);
                m.hear(t);
            }
        }
        return true;
    }

    int judge(int c, int row, int what) {
        if (!man(c) || row(row) == -2 || what < 0 || what > 3) {
            return -2;
        }
        if (row(row) != 0) {
            return row(row);
        }
        List<Man> all = new ArrayList<>();
        for (Man m : men) {
            all.add(m.twin());
        }
        int[] answers = {NONE, 0, 0, 0};
        for (int i = 0; i < rows[row].length; i++) {
            if (!act(all, c, rows[row][i])) {
                answers[0] = i;
                break;
            }
            if (tale.breach(all.get(c).bits())) {
                answers[3]++;
            }
        }
        answers[1] = all.get(c).losses - men.get(c).losses;
        answers[2] = all.get(c).bits();
        return answers[what];
    }

    int perform(int c, int row) {
        if (!man(c) || row(row) == -2) {
            return -2;
        }
        if (row(row) != 0) {
            return row(row);
        }
        int done = 0;
        while (done < rows[row].length && act(men, c, rows[row][done])) {
            done++;
        }
        return done;
    }

    int day(int seed, int times) {
        if (men.isEmpty()) {
            return -5;
        }
        if (times < 1 || times > 40) {
            return -3;
        }
        int gone = 0;
        int x = seed;
        for (int i = 0; i < times; i++) {
            for (Man m : men) {
                x = 1103515245 * x + 12345;
                int what = (x >>> 16) % 4;
                if (what == 0) {
                    x = 1103515245 * x + 12345;
                    gone += m.hear((x >>> 16) % tale.things) == NONE ? 0 : 1;
                } else if (what == 1 && !m.mind.isEmpty()) {
                    x = 1103515245 * x + 12345;
                    gone += tale.say(m, m.mind.get((x >>> 16) % m.mind.size()));
                } else if (what >= 2 && !tale.inns.isEmpty()) {
                    x = 1103515245 * x + 12345;
                    gone += tale.walk(m, (x >>> 16) % tale.inns.size());
                }
            }
        }
        return gone;
    }

    // ---- hearings

    boolean things(int row) {
        for (long v : rows[row]) {
            if (!tale.is(v)) {
                return false;
            }
        }
        return true;
    }

    static int hearings(long[] row, int size, int law, List<Integer> mind) {
        int fresh = 0;
        for (long v : row) {
            Integer t = (int) v;
            if (mind.contains(t)) {
                if (law == 0) {
                    mind.remove(t);
                    mind.add(t);
                }
            } else {
                fresh++;
                mind.add(t);
                if (mind.size() > size) {
                    mind.remove(0);
                }
            }
        }
        return fresh;
    }

    /** Whatever is driven out: all of it is tried. */
    static int foresight(long[] row, int size) {
        Map<Integer, Integer> fewest = new HashMap<>();
        fewest.put(0, 0);
        for (long v : row) {
            Map<Integer, Integer> then = new HashMap<>();
            for (Map.Entry<Integer, Integer> state : fewest.entrySet()) {
                int held = state.getKey();
                int bit = 1 << v;
                if ((held & bit) != 0) {
                    then.merge(held, state.getValue(), Math::min);
                } else if (Integer.bitCount(held) < size) {
                    then.merge(held | bit, state.getValue() + 1, Math::min);
                } else {
                    for (int t = 0; t < 16; t++) {
                        if ((held >> t & 1) == 1) {
                            then.merge(held & ~(1 << t) | bit, state.getValue() + 1, Math::min);
                        }
                    }
                }
            }
            fewest = then;
        }
        int least = Integer.MAX_VALUE;
        for (int n : fewest.values()) {
            least = Math.min(least, n);
        }
        return least;
    }

    int news(int row, int size, int law) {
        return law == 2 ? foresight(rows[row], size) : hearings(rows[row], size, law, new ArrayList<>());
    }

    int fresh(int row, int size, int law) {
        if (row(row) == -2 || law < 0 || law > 2) {
            return -2;
        }
        if (row(row) != 0) {
            return -6;
        }
        return size < 1 || size > 9 || !things(row) ? -3 : news(row, size, law);
    }

    int kept(int row, int size, int law) {
        if (row(row) == -2 || law < 0 || law > 1) {
            return -2;
        }
        if (row(row) != 0) {
            return -6;
        }
        if (size < 1 || size > 9 || !things(row)) {
            return -3;
        }
        List<Integer> mind = new ArrayList<>();
        hearings(rows[row], size, law, mind);
        return bits(mind);
    }

    int less(int row) {
        if (row(row) != 0) {
            return row(row);
        }
        if (!things(row)) {
            return -3;
        }
        for (int size = 1; size <= 8; size++) {
            if (news(row, size, 1) < news(row, size + 1, 1)) {
                return size;
            }
        }
        return NONE;
    }

    int enough(int row, int many, int law) {
        if (row(row) == -2 || law < 0 || law > 2) {
            return -2;
        }
        if (row(row) != 0) {
            return -6;
        }
        if (!things(row)) {
            return -3;
        }
        for (int size = 1; size <= 9; size++) {
            if (news(row, size, law) <= many) {
                return size;
            }
        }
        return NONE;
    }

    int farBack(int row, int i) {
        if (row(row) != 0) {
            return row(row);
        }
        if (i < 0 || i >= rows[row].length) {
            return -7;
        }
        if (!things(row)) {
            return -3;
        }
        for (int last = i - 1; last >= 0; last--) {
            if (rows[row][last] == rows[row][i]) {
                Set<Long> unlike = new HashSet<>();
                for (int k = last; k < i; k++) {
                    unlike.add(rows[row][k]);
                }
                return unlike.size();
            }
        }
        return NONE;
    }

    int court(List<Integer> order, int size, int inn) {
        Man m = new Man(size);
        for (int t : order) {
            m.hear(t);
        }
        tale.walk(m, inn);
        return tale.deliver(m);
    }

    static List<Integer> list(long[] row) {
        List<Integer> l = new ArrayList<>();
        for (long v : row) {
            l.add((int) v);
        }
        return l;
    }

    int through(int row, int size, int inn) {
        if (row(row) == -2 || !tale.isInn(inn)) {
            return -2;
        }
        if (row(row) != 0) {
            return -6;
        }
        return size < 1 || size > 9 || !things(row) ? -3 : court(list(rows[row]), size, inn);
    }

    int sizeFor(int row, int inn) {
        if (row(row) == -2 || !tale.isInn(inn)) {
            return -2;
        }
        if (row(row) != 0) {
            return -6;
        }
        if (!things(row)) {
            return -3;
        }
        for (int size = 1; size <= 9; size++) {
            int court = court(list(rows[row]), size, inn);
            if ((court | bits(list(rows[row]))) == court) {
                return size;
            }
        }
        return NONE;
    }

    /** All rows of unlike ones of a set with a length, by THINGS. */
    static List<List<Integer>> rowsOf(List<Integer> set, int length) {
        List<List<Integer>> all = new ArrayList<>();
        if (length == 0) {
            all.add(new ArrayList<>());
            return all;
        }
        for (int t : new TreeSet<>(set)) {
            List<Integer> rest = new ArrayList<>(set);
            rest.remove((Integer) t);
            for (List<Integer> row : rowsOf(rest, length - 1)) {
                row.add(0, t);
                all.add(row);
            }
        }
        return all;
    }

    static List<Integer> list(int set) {
        List<Integer> l = new ArrayList<>();
        for (int t = 0; t < 32; t++) {
            if ((set >>> t & 1) == 1) {
                l.add(t);
            }
        }
        return l;
    }

    int told(int set, int size, int inn, int what) {
        if (!tale.isInn(inn) || what < 0 || what > 15 || what > 1 && what < 10) {
            return -2;
        }
        if (!tale.isSet(set) || Integer.bitCount(set) > 6 || size < 1 || size > 9) {
            return -3;
        }
        List<Integer> best = null;
        for (List<Integer> order : rowsOf(list(set), Integer.bitCount(set))) {
            if (best == null || tale.worth(court(order, size, inn)) > tale.worth(court(best, size, inn))) {
                best = order;
            }
        }
        int court = court(best, size, inn);
        return what == 0 ? tale.worth(court) : what == 1 ? court : what - 10 < best.size() ? best.get(what - 10) : NONE;
    }

    // ---- rhymes, men

    int back(int set) {
        if (!tale.isSet(set)) {
            return -3;
        }
        ArrayDeque<Integer> open = new ArrayDeque<>(list(set));
        Set<Integer> come = new HashSet<>(open);
        while (!open.isEmpty()) {
            for (int r : tale.rhymes.get(open.poll())) {
                if (come.add(r)) {
                    open.add(r);
                }
            }
        }
        return bits(come);
    }

    int seeds(int wanted) {
        if (!tale.isSet(wanted)) {
            return -3;
        }
        int[] come = new int[1 << tale.things];
        int best = (1 << tale.things) - 1;
        for (int set = 0; set < come.length; set++) {
            int low = Integer.lowestOneBit(set);
            come[set] = set == low ? back(set) : come[low] | come[set - low];
            if ((wanted & ~come[set]) == 0 && Integer.bitCount(set) < Integer.bitCount(best)) {
                best = set;
            }
        }
        return best;
    }

    /** Fewest men for THINGS that are due once and twice, by trying each load of a first man. */
    int fewest(int once, int twice, int each, Map<Long, Integer> known) {
        if ((once | twice) == 0) {
            return 0;
        }
        long key = (long) once << 32 | twice;
        Integer before = known.get(key);
        if (before != null) {
            return before;
        }
        int all = once | twice;
        int low = Integer.lowestOneBit(all);
        int best = 99;
        for (int load = all; load > 0; load = load - 1 & all) {
            if ((load & low) != 0 && Integer.bitCount(load) <= each && !tale.breach(load)) {
                best = Math.min(best, 1 + fewest(once & ~load | twice & load, twice & ~load, each, known));
            }
        }
        known.put(key, best);
        return best;
    }

    int menRefused(int wanted, int each, boolean doubled) {
        if (!tale.isSet(wanted) || each < 1 || each > 9) {
            return -3;
        }
        return doubled && Integer.bitCount(wanted) > 8 ? -4 : 0;
    }

    int men(int wanted, int each, boolean doubled) {
        int no = menRefused(wanted, each, doubled);
        return no != 0 ? no : fewest(doubled ? 0 : wanted, doubled ? wanted : 0, each, new HashMap<>());
    }

    int load(int wanted, int each, boolean doubled, int man) {
        int no = menRefused(wanted, each, doubled);
        if (no != 0) {
            return no;
        }
        Map<Long, Integer> known = new HashMap<>();
        int once = doubled ? 0 : wanted;
        int twice = doubled ? wanted : 0;
        for (int m = 0; man >= 0 && (once | twice) != 0; m++) {
            int all = fewest(once, twice, each, known);
            int load = 1;
            while ((load & ~(once | twice)) != 0 || Integer.bitCount(load) > each || tale.breach(load)
                    || fewest(once & ~load | twice & load, twice & ~load, each, known) != all - 1) {
                load++;
            }
            if (m == man) {
                return load;
            }
            once = once & ~load | twice & load;
            twice &= ~load;
        }
        return NONE;
    }

    // ---- road, questions

    int best(List<Integer> from, int most, int what, ToIntFunction<List<Integer>> worth) {
        List<Integer> best = new ArrayList<>();
        for (int length = 0; length <= most; length++) {
            for (List<Integer> row : rowsOf(from, length)) {
                if (worth.applyAsInt(row) > worth.applyAsInt(best)) {
                    best = row;
                }
            }
        }
        return what == 0 ? worth.applyAsInt(best) : what == 1 ? best.size()
                : what - 10 < best.size() ? best.get(what - 10) : NONE;
    }

    int road(int c, int inn, int what) {
        if (!man(c) || !tale.isInn(inn) || what < 0 || what > 12 || what > 1 && what < 10) {
            return -2;
        }
        return best(men.get(c).mind, 3, what, row -> {
            Man m = men.get(c).twin();
            for (int t : row) {
                if (m.mind.contains(t)) {
                    tale.say(m, t);
                }
            }
            tale.walk(m, inn);
            return tale.worth(m.bits());
        });
    }

    int questions(int c, int other, int q, int what) {
        if (!man(c) || !man(other) || c == other || what < 0 || what > 12 || what > 1 && what < 10) {
            return -2;
        }
        if (q < 0 || q > 3) {
            return -3;
        }
        return best(men.get(other).mind, q, what, row -> {
            Man m = men.get(c).twin();
            for (int t : row) {
                m.hear(t);
            }
            return tale.worth(m.bits());
        });
    }

    int asked(int wanted) {
        if (!tale.isSet(wanted)) {
            return -3;
        }
        int due = 0;
        for (Man m : men) {
            due |= m.bits() & wanted;
        }
        for (int n = 0; n <= men.size(); n++) {
            for (int set = 0; set < 1 << men.size(); set++) {
                int held = 0;
                for (int c : list(set)) {
                    held |= men.get(c).bits();
                }
                if (Integer.bitCount(set) == n && (held & due) == due) {
                    return set;
                }
            }
        }
        throw new IllegalStateException();
    }

    int broken(int c, int wanted) {
        if (!man(c)) {
            return -2;
        }
        if (!tale.isSet(wanted)) {
            return -3;
        }
        int alone = men.get(c).bits() & wanted;
        for (Man m : men) {
            if (m != men.get(c)) {
                alone &= ~m.bits();
            }
        }
        return alone;
    }

    // ---- pieces

    int piece(int row) {
        if (row(row) != 0) {
            return row(row);
        }
        if (pieces.size() == 6) {
            return -4;
        }
        if (rows[row].length < 1 || rows[row].length > 8 || !things(row)) {
            return -3;
        }
        pieces.add(list(rows[row]));
        return pieces.size();
    }

    static String text(List<Integer> piece) {
        StringBuilder s = new StringBuilder();
        for (int t : piece) {
            s.append((char) ('A' + t));
        }
        return s.toString();
    }

    /** Goes over all rows by length and THINGS, less those that can't be told from an earlier one. */
    String join() {
        List<String> texts = new ArrayList<>();
        for (List<Integer> p : pieces) {
            texts.add(text(p));
        }
        ArrayDeque<String> rowsNow = new ArrayDeque<>();
        Set<String> met = new HashSet<>();
        rowsNow.add("");
        while (!rowsNow.isEmpty()) {
            String row = rowsNow.poll();
            StringBuilder key = new StringBuilder();
            boolean all = true;
            String tail = "";
            for (String t : texts) {
                key.append(row.contains(t) ? '1' : '0');
                all &= row.contains(t);
                for (int n = Math.min(t.length(), row.length()); n > tail.length(); n--) {
                    if (row.endsWith(t.substring(0, n))) {
                        tail = t.substring(0, n);
                    }
                }
            }
            if (all) {
                return row;
            }
            if (met.add(key + tail)) {
                for (int t = 0; t < tale.things; t++) {
                    rowsNow.add(row + (char) ('A' + t));
                }
            }
        }
        throw new IllegalStateException();
    }

    int joined(int k) {
        if (k < NONE) {
            return -3;
        }
        String row = join();
        return k == NONE ? row.length() : k < row.length() ? row.charAt(k) - 'A' : NONE;
    }

    int unfit() {
        for (int i = 0; i < pieces.size(); i++) {
            for (int j = i + 1; j < pieces.size(); j++) {
                List<Integer> a = pieces.get(i);
                List<Integer> b = pieces.get(j);
                for (int t : a) {
                    for (int u : a) {
                        if (b.contains(t) && b.contains(u) && a.indexOf(t) < a.indexOf(u) && b.indexOf(t) > b.indexOf(u)) {
                            return 10 * i + j;
                        }
                    }
                }
            }
        }
        return NONE;
    }

    int gaps() {
        Set<Integer> left = new HashSet<>();
        for (int t = 0; t < tale.things; t++) {
            left.add(t);
        }
        for (List<Integer> p : pieces) {
            left.removeAll(p);
        }
        return bits(left);
    }

    // ---- rows of numbers, images

    int numbers(int row, int sort, int n) {
        if (row < 0 || row > 3 || sort < 0 || sort > 3) {
            return -2;
        }
        if (n < 0 || n > 40) {
            return -3;
        }
        rows[row] = new long[n];
        sorts[row] = sort;
        return 0;
    }

    long write(int row, int i, long v) {
        if (row(row) != 0) {
            return row(row);
        }
        if (i < 0 || i >= rows[row].length) {
            return -7;
        }
        int cut = 64 - (8 << sorts[row]);
        rows[row][i] = v << cut >> cut;
        return rows[row][i];
    }

    int copy(int c, int row) {
        if (!man(c) || row(row) == -2) {
            return -2;
        }
        if (row(row) != 0) {
            return -6;
        }
        List<Integer> mind = men.get(c).mind;
        if (mind.size() > rows[row].length) {
            return -7;
        }
        for (int k = 0; k < mind.size(); k++) {
            rows[row][k] = mind.get(k);
        }
        return mind.size();
    }

    Snap snap(Tale t, List<Man> m, List<List<Integer>> p) {
        Snap s = new Snap();
        s.tale = t;
        s.men = new ArrayList<>();
        for (Man one : m) {
            s.men.add(one.twin());
        }
        s.pieces = new ArrayList<>(p);
        return s;
    }

    int image(int i) {
        if (i < 0 || i > 1) {
            return -2;
        }
        snaps[i] = snap(tale, men, pieces);
        return 0;
    }

    int restore(int i) {
        if (i < 0 || i > 1) {
            return -2;
        }
        if (snaps[i] == null) {
            return -5;
        }
        Snap s = snap(snaps[i].tale, snaps[i].men, snaps[i].pieces);
        tale = s.tale;
        men = s.men;
        pieces = s.pieces;
        return 0;
    }

    int count(int what) {
        int[] all = {tale.things, tale.mind, tale.inns.size(), men.size(), pieces.size(), tale.lines, tape.length()};
        return what < 0 || what >= all.length ? NONE : all[what];
    }
}
