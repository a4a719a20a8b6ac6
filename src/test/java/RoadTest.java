/** Promises 35 to 38: road, questions, who must be asked, the man whose loss breaks it. */
public final class RoadTest {
    public static void main(String[] args) {
        road();
        roadByRhymes();
        questions();
        asked();
        broken();
        Check.end("RoadTest");
    }

    private static void road(NineInMind x, int inn, int sum, int... row) {
        Check.due("road(0, " + inn + ", 0)", sum, x.road(0, inn, 0));
        Check.due("road(0, " + inn + ", 1)", row.length, x.road(0, inn, 1));
        for (int k = 0; k < 3; k++) {
            Check.due("road(0, " + inn + ", 1" + k + ")", k < row.length ? row[k] : -1, x.road(0, inn, 10 + k));
        }
    }

    /** Promise 35. */
    private static void road() {
        NineInMind x = Check.withLore("things 8;worth 0 20;worth 1 10;worth 7 0;inn;inn 6;inn 7 7;inn 2;");
        x.comes(3);
        Check.hear(x, 0, 0, 1, 2);
        // 2 1 0: on the way 6 drives out 0, 7 drives out 1, and 2 is there again
        road(x, 0, 31);
        road(x, 1, 21 + 10, 0, 1);
        // one place is left for the latest one
        road(x, 2, 20 + 1, 0);
        road(x, 3, 2);
        Check.due("mind stays", 0x1210, Check.mind(x, 0));
        Check.due("inn stays", 0, x.of(0, 1));
        Check.due("nothing lost", 0, x.of(0, 5));
        Check.due("no such inn", -2, x.road(0, 4, 0));
        Check.due("no such inn", -2, x.road(0, -1, 0));
        Check.due("no such courier", -2, x.road(1, 0, 0));
        for (int what : new int[] {2, 9, 13, -1}) {
            Check.due("what " + what, -2, x.road(0, 0, what));
        }
        // from another inn on
        x.walks(0, 2);
        Check.hear(x, 0, 0, 6, 4);
        road(x, 3, 22, 0);
    }

    private static void roadByRhymes() {
        NineInMind x = Check.withLore("things 8;worth 5 50;worth 6 30;rhyme 2 5;rhyme 5 6;inn;inn 7;");
        x.comes(2);
        Check.hear(x, 0, 2, 0);
        // 2 brings 5; 5 brings 6; staying there both are worth the most
        road(x, 0, 51, 2);
        road(x, 1, 51, 2);
        Check.hear(x, 0, 2, 5);
        // 5 2 there: with 5 he has 6 5
        road(x, 0, 80, 5);
        road(x, 1, 51);
    }

    private static void questions(NineInMind x, int q, int sum, int... row) {
        Check.due("questions(0, 1, " + q + ", 0)", sum, x.questions(0, 1, q, 0));
        Check.due("questions(0, 1, " + q + ", 1)", row.length, x.questions(0, 1, q, 1));
        for (int k = 0; k < 3; k++) {
            Check.due("questions(0, 1, " + q + ", 1" + k + ")", k < row.length ? row[k] : -1,
                    x.questions(0, 1, q, 10 + k));
        }
    }

    /** Promise 36. */
    private static void questions() {
        NineInMind x = Check.withLore("things 8;worth 0 20;worth 5 30;worth 6 30;worth 7 5;rhyme 5 7;inn;inn;");
        x.comes(3);
        x.comes(4);
        questions(x, 3, 0);
        Check.hear(x, 0, 1, 2, 0);
        Check.hear(x, 1, 5, 6, 7, 0);
        x.walks(1, 1);
        questions(x, 0, 22);
        questions(x, 1, 51, 5);
        questions(x, 2, 80, 5, 6);
        questions(x, 3, 80, 5, 6);
        Check.due("his mind stays", 0x1021, Check.mind(x, 0));
        Check.due("the other one's too", 0x10765, Check.mind(x, 1));
        Check.hear(x, 0, 1, 2);
        // 2 1 0: the first question drives out 0; then it must be asked again
        questions(x, 1, 32, 5);
        questions(x, 2, 61, 5, 6);
        questions(x, 3, 80, 0, 5, 6);
        Check.due("q -1", -3, x.questions(0, 1, -1, 0));
        Check.due("q 4", -3, x.questions(0, 1, 4, 0));
        Check.due("both one", -2, x.questions(0, 0, 9, 0));
        Check.due("no such", -2, x.questions(0, 2, 9, 0));
        Check.due("no such", -2, x.questions(-1, 1, 9, 0));
        for (int what : new int[] {2, 9, 13, -1}) {
            Check.due("what " + what, -2, x.questions(0, 1, 9, what));
        }
    }

    /** Promise 37. */
    private static void asked() {
        NineInMind x = Check.withLore("things 8;");
        Check.due("nobody there", 0, x.asked(255));
        for (int c = 0; c < 5; c++) {
            x.comes(4);
        }
        Check.hear(x, 0, 0, 1);
        Check.hear(x, 1, 2, 3);
        Check.hear(x, 2, 1, 2, 3);
        Check.hear(x, 3, 0, 1);
        Check.hear(x, 4, 3, 4);
        Check.due("all that is held", 1 | 2 | 16, x.asked(255));
        Check.due("the least of like ones", 1 | 2, x.asked(15));
        Check.due("one is enough", 4, x.asked(14));
        Check.due("held by nobody", 0, x.asked(0xe0));
        Check.due("none", 0, x.asked(0));
        Check.due("one thing", 1, x.asked(1));
        Check.due("others", -3, x.asked(256));
        Check.due("others", -3, x.asked(-1));
    }

    /** Promise 38. */
    private static void broken() {
        NineInMind x = Check.withLore("things 8;");
        x.comes(4);
        Check.hear(x, 0, 0, 1, 7);
        Check.due("alone", 0x83, x.broken(0, 255));
        x.comes(4);
        x.comes(4);
        Check.hear(x, 2, 1, 5);
        Check.due("broken(0)", 0x81, x.broken(0, 255));
        Check.due("wanted alone", 0x80, x.broken(0, 0xfe));
        Check.due("broken(1)", 0, x.broken(1, 255));
        Check.due("broken(2)", 0x20, x.broken(2, 255));
        Check.due("no such courier", -2, x.broken(3, 256));
        Check.due("others", -3, x.broken(0, 256));
        Check.due("others", -3, x.broken(0, -1));
    }
}
