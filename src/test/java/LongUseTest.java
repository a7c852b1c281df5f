import java.lang.reflect.InvocationTargetException;
import java.lang.reflect.Method;
import java.util.Arrays;
import java.util.Comparator;
import java.util.Random;

/**
 * Whatever is called, in any state and behind the 512th call too, nothing throws and each call ends
 * (LANGUAGE 7); two objects behind the same calls answer alike (LANGUAGE 13), whether or not a third
 * object is used between them.
 */
public final class LongUseTest {
    private static final int RUNS = 12;
    private static final int CALLS = 6000;
    private static final int[] FAR = {Integer.MIN_VALUE, Integer.MIN_VALUE + 9, -1000, -2, -1, 61, 100, 128,
        1000, Integer.MAX_VALUE - 9, Integer.MAX_VALUE};
    private static final long[] FAR_LONG = {Long.MIN_VALUE, -1L << 32, 1L << 31, Long.MAX_VALUE};
    private static final Method[] FACE = face();

    private final Random random;
    private final LeavesRoom x = new LeavesRoom();
    private final LeavesRoom twin = new LeavesRoom();
    private final LeavesRoom between = new LeavesRoom();
    /** A HOUSE that is to be fed, sign by sign. */
    private String toFeed = "";

    private LongUseTest(long seed) {
        random = new Random(seed);
    }

    public static void main(String[] args) throws Exception {
        Check.due("calls of the face", FACE.length, 37);
        for (int run = 0; run < RUNS; run++) {
            LongUseTest test = new LongUseTest(run);
            for (int call = 0; call < CALLS; call++) {
                test.callOne("run " + run + ", call " + call + ": ");
            }
        }
        everyNumberFar();
        Check.end("LongUseTest");
    }

    /** The calls in one order, whatever order the machine tells them in. */
    private static Method[] face() {
        Method[] all = LeavesRoom.class.getDeclaredMethods();
        Method[] open = Arrays.stream(all).filter(m -> java.lang.reflect.Modifier.isPublic(m.getModifiers()))
            .toArray(Method[]::new);
        Arrays.sort(open, Comparator.comparing(Method::getName));
        return open;
    }

    private static Method named(String name) {
        return Arrays.stream(FACE).filter(m -> m.getName().equals(name)).findFirst().orElseThrow();
    }

    private void callOne(String ahead) throws IllegalAccessException {
        if (!toFeed.isEmpty()) {
            char sign = toFeed.charAt(0);
            toFeed = toFeed.substring(1);
            boolean isEnd = sign == '\n';
            both(ahead, named(isEnd ? "house" : "feed"), isEnd ? new Object[0] : new Object[] {(int) sign});
            return;
        }
        if (random.nextInt(400) == 0) {
            toFeed = "thirst " + random.nextInt(5) + ";shun 3 q=" + random.nextInt(6) + ";bear 4 !(y=1|v>5)&k<4\n";
        }
        Method m = FACE[random.nextInt(FACE.length)];
        Class<?>[] types = m.getParameterTypes();
        Object[] arguments = new Object[types.length];
        for (int i = 0; i < types.length; i++) {
            arguments[i] = argument(types[i]);
        }
        both(ahead, m, arguments);
    }

    private Object argument(Class<?> type) {
        if (type == boolean.class) {
            return random.nextBoolean();
        }
        boolean isFar = random.nextInt(12) == 0;
        if (type == long.class) {
            return isFar ? FAR_LONG[random.nextInt(FAR_LONG.length)] : random.nextInt(9);
        }
        return isFar ? FAR[random.nextInt(FAR.length)] : random.nextInt(random.nextInt(3) == 0 ? 64 : 7);
    }

    private void both(String ahead, Method m, Object[] arguments) throws IllegalAccessException {
        String call = ahead + m.getName() + Arrays.toString(arguments);
        long got = answer(call, x, m, arguments);
        answer(call, between, FACE[random.nextInt(FACE.length)], null);
        Check.due(call, answer(call, twin, m, arguments), got);
    }

    /** Without arguments told, all are 1 or true. */
    private static long answer(String call, LeavesRoom room, Method m, Object[] told) throws IllegalAccessException {
        Object[] arguments = told == null ? ones(m) : told;
        try {
            return ((Number) m.invoke(room, arguments)).longValue();
        } catch (InvocationTargetException e) {
            Check.due(call + " throws " + e.getCause(), 1, 0);
            return 0;
        }
    }

    private static Object[] ones(Method m) {
        return Arrays.stream(m.getParameterTypes()).map(t -> t == boolean.class ? (Object) true : (Object) 1).toArray();
    }

    /** Each number of each call far off, among small ones: of nobody, and where all rows are full. */
    private static void everyNumberFar() throws IllegalAccessException {
        for (Method m : FACE) {
            for (int place = 0; place < m.getParameterCount(); place++) {
                for (int far : FAR) {
                    Object[] arguments = ones(m);
                    if (m.getParameterTypes()[place] == boolean.class) {
                        continue;
                    }
                    arguments[place] = far;
                    String call = m.getName() + Arrays.toString(arguments);
                    answer(call + " of nobody", new LeavesRoom(), m, arguments);
                    answer(call + " where all is full", full(), m, arguments);
                }
            }
        }
    }

    private static LeavesRoom full() {
        LeavesRoom room = new LeavesRoom();
        for (int i = 0; i < 6; i++) {
            room.guest(6 - i, i);
            room.tape(i, i % 5, 60);
            Check.house(room, "thirst 0;bear " + i + " y=1");
        }
        for (int i = 0; i < 11; i++) {
            room.see(i % 6, true, i);
            room.plan(i % 4, i % 6);
            room.book(i % 6, i % 6);
        }
        for (int i = 0; i < 101; i++) {
            room.feed('!');
        }
        room.image();
        room.pass(60);
        room.act(0, 2, Integer.MAX_VALUE);
        return room;
    }
}
