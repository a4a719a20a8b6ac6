import java.lang.reflect.InvocationTargetException;
import java.lang.reflect.Method;
import java.lang.reflect.Modifier;
import java.util.ArrayList;
import java.util.Arrays;
import java.util.List;

/** No call may ever throw, for any arguments in any state: every call with arguments at and beyond all bounds. */
public final class NeverThrowsTest {
    private static final int[] EDGES = {Integer.MIN_VALUE, -1, 0, 1, 2, 3, 4, 5, 6, 8, 9, 10, 11, 12, 15, 16, 31, 32, 40,
        41, 63, 64, 255, 256, 65535, 65536, Integer.MAX_VALUE - 9, Integer.MAX_VALUE};
    private static final long[] FAR = {Long.MIN_VALUE, -1, 0, 127, 128, 32768, 1L << 32, Long.MAX_VALUE};
    private static final int STATES = 6;
    private static final int FRESH_AFTER = 200;
    private static final int MOST_TUPLES = 6000;

    private NineInMind x;
    private Model m;
    private int calls;

    public static void main(String[] args) throws ReflectiveOperationException {
        List<Method> face = new ArrayList<>();
        for (Method method : NineInMind.class.getDeclaredMethods()) {
            if (Modifier.isPublic(method.getModifiers())) {
                face.add(method);
            }
        }
        face.sort((a, b) -> a.getName().compareTo(b.getName()));
        for (int state = 0; state < STATES; state++) {
            for (Method method : face) {
                new NeverThrowsTest().tryAll(method, state);
            }
        }
        Check.end("NeverThrowsTest");
    }

    private void tryAll(Method method, int state) throws ReflectiveOperationException {
        Class<?>[] types = method.getParameterTypes();
        int tuples = 1;
        for (Class<?> type : types) {
            tuples *= edges(type);
        }
        int step = Math.max(1, tuples / MOST_TUPLES);
        // the numbers of edges are made of 2 and 7 alone: without these a step goes through all of them alike
        while (step > 1 && (step % 2 == 0 || step % 7 == 0)) {
            step++;
        }
        calls = FRESH_AFTER;
        for (int tuple = 0; tuple < tuples && tuple >= 0; tuple += step) {
            if (calls >= FRESH_AFTER) {
                begin(state);
            }
            Object[] arguments = new Object[types.length];
            int left = tuple;
            for (int i = 0; i < types.length; i++) {
                arguments[i] = edge(types[i], left % edges(types[i]));
                left /= edges(types[i]);
            }
            answer(method, state, arguments);
        }
    }

    private static int edges(Class<?> type) {
        return type == boolean.class ? 2 : type == long.class ? FAR.length : EDGES.length;
    }

    private static Object edge(Class<?> type, int k) {
        if (type == boolean.class) {
            return k == 1;
        }
        return type == long.class ? (Object) FAR[k] : (Object) EDGES[k];
    }

    private void answer(Method method, int state, Object[] arguments) throws ReflectiveOperationException {
        calls++;
        String call = "state " + state + " " + method.getName() + Arrays.toString(arguments);
        try {
            long got = ((Number) method.invoke(x, arguments)).longValue();
            long want = got;
            if (state < STATES - 1) {
                Method same = Model.class.getDeclaredMethod(method.getName(), method.getParameterTypes());
                want = ((Number) same.invoke(m, arguments)).longValue();
            }
            Check.due(call, want, got);
        } catch (InvocationTargetException e) {
            Check.due(call + " threw " + e.getCause(), 0, 1);
        }
    }

    private void begin(int state) {
        x = new NineInMind();
        m = new Model();
        calls = 0;
        switch (state) {
            case 0:
                break;
            case 1:
                tell("things 1;");
                break;
            case 2:
                tell("things 5;mind 2;rhyme 0 1;rhyme 1 0;secret 0 4;worth 3 0;inn;");
                come(2, 1);
                row(0, 0);
                row(1, 0, 4, 0);
                row(2, 3, 5);
                break;
            case 3:
                tell("things 8;mind 5;rhyme 0 7;rhyme 7 3;rhyme 2 1;secret 0 1;secret 2 3;worth 6 99;worth 5 0;"
                        + "inn 1;inn;inn 7 7 0;inn 4 5 6 7 0 1 2 3 4;");
                come(5, 4, 3, 2, 1, 5);
                row(0, 0, 1, 2, 3, 4, 5, 6, 7);
                row(1, 0, 20, 41, 61, 43, 7, 27, 62, 40, 99);
                row(3, 7, 7, 6, 0, 1, 2, 3, 4, 5, 6, 7, 0, 2, 4, 6, 1, 3, 5, 7, 0, 7, 7, 6, 0, 1, 2, 3, 4, 5, 6, 7, 0, 2, 4,
                        6, 1, 3, 5, 7, 0);
                image(1);
                break;
            case 4:
                tell("things 3;mind 9;inn;inn;inn;inn;inn;inn;inn;inn;inn;inn 0 1 2;");
                come(9, 9);
                row(0, 2, 1, 0);
                row(1);
                pieces(0, 6);
                image(0);
                image(1);
                feedAll();
                break;
            default:
                tell("things 16;rhyme 15 0;rhyme 0 15;secret 15 14;secret 13 12;secret 0 15;worth 15 99;inn 15;inn 0 15;");
                come(9, 9, 9, 9, 9, 9);
                row(0, 15, 14, 13, 12, 11, 10, 9, 8);
                row(1, Long.MIN_VALUE, Long.MAX_VALUE);
                row(2, 0, 1, 2, 3, 4, 5, 6, 7, 8, 9, 10, 11, 12, 13, 14, 15);
                pieces(0, 6);
                image(0);
                break;
        }
    }

    private void tell(String text) {
        Check.tell(x, text);
        m.tape.append(text);
        m.lore(text.length());
    }

    private void come(int... sizes) {
        for (int c = 0; c < sizes.length; c++) {
            x.comes(sizes[c]);
            m.comes(sizes[c]);
            for (int t = 0; t <= c + 2; t++) {
                x.hears(c, t * 3 % 8);
                m.hears(c, t * 3 % 8);
            }
        }
    }

    private void row(int row, long... numbers) {
        Check.row(x, row, numbers);
        m.numbers(row, 3, numbers.length);
        for (int i = 0; i < numbers.length; i++) {
            m.write(row, i, numbers[i]);
        }
    }

    private void pieces(int row, int many) {
        for (int n = 0; n < many; n++) {
            x.piece(row);
            m.piece(row);
        }
    }

    private void image(int i) {
        x.image(i);
        m.image(i);
    }

    private void feedAll() {
        for (int n = 0; n < 25; n++) {
            x.feed(n, n, n, n, n);
            m.feed(n, n, n, n, n);
        }
    }
}
