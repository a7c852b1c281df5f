import java.lang.reflect.InvocationTargetException;
import java.lang.reflect.Method;
import java.util.ArrayList;
import java.util.Comparator;
import java.util.List;

/** Counts the answers that are not as due. */
final class Check {
    private static int asked = 0;
    private static int wrong = 0;
    /** The test that runs, ahead of each line that it prints. */
    private static String running = "";

    private Check() {
    }

    static void due(String call, long got, long want) {
        asked++;
        if (got != want) {
            wrong++;
            System.out.println(running + call + " answered " + got + ", due is " + want);
        }
    }

    /** What several calls answer, one behind the other. */
    static void dues(String calls, long[] got, long... want) {
        due(calls + ", how many", got.length, want.length);
        for (int i = 0; i < Math.min(got.length, want.length); i++) {
            due(calls + " [" + i + "]", got[i], want[i]);
        }
    }

    /** What one object answers, as due is what the other does; each as its call and the answer. */
    static void alike(String calls, List<String> got, List<String> want) {
        for (int i = 0; i < Math.min(got.size(), want.size()); i++) {
            if (!got.get(i).equals(want.get(i))) {
                System.out.println(running + calls + ": " + got.get(i) + ", due is " + want.get(i));
                due(calls + ", all else", 0, 1);
                return;
            }
        }
        due(calls + ", how many", got.size(), want.size());
    }

    /** The tests of a class: its methods named by a promise's number. */
    static List<Method> tests(Class<?> c) {
        List<Method> all = new ArrayList<>();
        for (Method m : c.getDeclaredMethods()) {
            if (m.getName().matches("promise\\d\\d_.*")) {
                all.add(m);
            }
        }
        all.sort(Comparator.comparing(Method::getName));
        return all;
    }

    /** Runs them all; one that asks nothing is not as due. */
    static void run(Class<?> c) throws IllegalAccessException, InvocationTargetException {
        List<Method> tests = tests(c);
        for (Method test : tests) {
            running = test.getName() + ": ";
            int before = asked;
            test.invoke(null);
            due("asks something", asked > before ? 1 : 0, 1);
        }
        running = "";
        end(c.getName() + ", " + tests.size() + " tests");
    }

    /** A new object with GUESTS: KIND, v, KIND, v and so on. */
    static LeavesRoom room(int... kindsAndVs) {
        LeavesRoom x = new LeavesRoom();
        for (int i = 0; i + 1 < kindsAndVs.length; i += 2) {
            due("guest", x.guest(kindsAndVs[i], kindsAndVs[i + 1]), i / 2);
        }
        return x;
    }

    static int house(LeavesRoom x, String text) {
        for (int i = 0; i < text.length(); i++) {
            x.feed(text.charAt(i));
        }
        return x.house();
    }

    /** A new object with GUESTS, among whom a HOUSE holds. */
    static LeavesRoom roomUnder(String text, int... kindsAndVs) {
        LeavesRoom x = room(kindsAndVs);
        due("house " + text, house(x, text), 0);
        return x;
    }

    static void end(String test) {
        System.out.println(test + ": " + asked + " answers, " + wrong + " not as due");
        if (wrong != 0 || asked == 0) {
            System.exit(1);
        }
    }
}
