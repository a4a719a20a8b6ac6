/** Promises 33 and 34: with all the secrets there can be among five THINGS, each answer must be that of the Model. */
public final class AllSecretsTest {
    private static final int THINGS = 5;
    private static final int PAIRS = THINGS * (THINGS - 1) / 2;
    private static final int WANTED = (1 << THINGS) - 1;

    public static void main(String[] args) {
        for (int secrets = 0; secrets < 1 << PAIRS; secrets++) {
            String text = lore(secrets);
            Model m = new Model();
            m.tape.append(text);
            m.lore(text.length());
            for (int each = 1; each <= THINGS; each++) {
                compare(text, Check.withLore(text), m, each, false);
                compare(text, Check.withLore(text), m, each, true);
            }
        }
        Check.end("AllSecretsTest");
    }

    private static String lore(int secrets) {
        StringBuilder s = new StringBuilder("things 5;");
        int pair = 0;
        for (int t = 0; t < THINGS; t++) {
            for (int u = t + 1; u < THINGS; u++) {
                if ((secrets >> pair & 1) != 0) {
                    s.append("secret ").append(t).append(' ').append(u).append(';');
                }
                pair++;
            }
        }
        return s.toString();
    }

    private static void compare(String text, NineInMind x, Model m, int each, boolean doubled) {
        String told = text + " each " + each + (doubled ? ", doubled" : "");
        int many = m.men(WANTED, each, doubled);
        Check.promise(33, told, many, x.men(WANTED, each, doubled));
        for (int man = 0; man <= many; man++) {
            Check.promise(34, told + ", man " + man, m.load(WANTED, each, doubled, man), x.load(WANTED, each, doubled, man));
        }
    }
}
