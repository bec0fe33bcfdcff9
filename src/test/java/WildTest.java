import java.lang.reflect.InvocationTargetException;
import java.lang.reflect.Method;
import java.util.ArrayList;
import java.util.Comparator;
import java.util.List;

/** Any call with any numbers, in any state: none may throw, and PlainCourt must answer the same. */
public final class WildTest {
    private static final Answers ANSWERS = new Answers("WildTest");
    private static final int RUNS = 1500;
    private static final int CALLS = 512;
    private static final int[] EDGES = {
        Integer.MIN_VALUE, Integer.MIN_VALUE + 1, -1000001, -1000000, -17, -5, -4, -3, -2, -1, 0, 1, 2, 3, 4, 5, 7, 8, 9, 10,
        11, 12, 13, 15, 16, 17, 32, 64, 199, 200, 201, 5000, 5001, 30011, 30013, 999999, 1000000, 1000001,
        Integer.MAX_VALUE - 1, Integer.MAX_VALUE,
    };

    private static long dice = 1442695040888963407L;

    public static void main(String[] args) throws ReflectiveOperationException {
        List<Method> face = new ArrayList<>();
        for (Method m : ScreeCourt.class.getDeclaredMethods()) {
            if (java.lang.reflect.Modifier.isPublic(m.getModifiers())) {
                face.add(m);
            }
        }
        face.sort(Comparator.comparing(Method::getName));
        for (int run = 0; run < RUNS && ANSWERS.wrong() == 0; run++) {
            wildRun(run, face);
        }
        ANSWERS.end();
    }

    private static int below(int n) {
        dice ^= dice << 13;
        dice ^= dice >>> 7;
        dice ^= dice << 17;
        return (int) Long.remainderUnsigned(dice, n);
    }

    private static void wildRun(int run, List<Method> face) throws ReflectiveOperationException {
        ScreeCourt court = new ScreeCourt();
        PlainCourt plain = new PlainCourt();
        int calls = 0;
        if (run % 3 != 0) {
            for (int i = 0; i < 3; i++) {
                court.place(3);
                plain.place(3);
                court.way(i, -1 - i, 1 + run % 9);
                plain.way(i, -1 - i, 1 + run % 9);
                calls += 2;
            }
        }
        while (calls < CALLS && ANSWERS.wrong() == 0) {
            calls++;
            Method m = face.get(below(face.size()));
            boolean tooDear = m.getName().equals("list") && !plain.canList();
            boolean tooSoon = m.getName().equals("anew") && below(10) != 0;
            if (!tooDear && !tooSoon) {
                callBoth(court, plain, m);
            }
        }
    }

    private static void callBoth(ScreeCourt court, PlainCourt plain, Method m) throws ReflectiveOperationException {
        Object[] values = new Object[m.getParameterCount()];
        StringBuilder call = new StringBuilder(m.getName());
        for (int i = 0; i < values.length; i++) {
            int edge = below(2) == 0 ? below(4) : EDGES[below(EDGES.length)];
            if (m.getParameterTypes()[i] == long.class) {
                values[i] = below(3) == 0 ? dice : (long) edge;
            } else {
                values[i] = edge;
            }
            call.append(' ').append(values[i]);
        }
        Method twin = PlainCourt.class.getDeclaredMethod(m.getName(), m.getParameterTypes());
        long want = (long) twin.invoke(plain, values);
        try {
            ANSWERS.due(call.toString(), ((Number) m.invoke(court, values)).longValue(), want);
        } catch (InvocationTargetException thrown) {
            ANSWERS.due(call + " threw " + thrown.getCause(), 1, 0);
        }
    }
}
