import java.util.TreeMap;

/** Each promise has tests of its own at its edges, named by its number. */
public final class PromisesTest {
    private static final int PROMISES = 38;
    private static final Class<?>[] EDGES = {
        GuestsEdgesTest.class, HousesEdgesTest.class, YearsEdgesTest.class, PlacingsEdgesTest.class,
        SeenEdgesTest.class, PlansEdgesTest.class, ActsEdgesTest.class, TapesEdgesTest.class,
    };

    public static void main(String[] args) {
        TreeMap<Integer, Integer> many = new TreeMap<>();
        for (Class<?> c : EDGES) {
            Check.tests(c).forEach(m -> many.merge(Integer.valueOf(m.getName().substring(7, 9)), 1, Integer::sum));
        }
        for (int promise = 1; promise <= PROMISES; promise++) {
            Check.due("promise " + promise + " has tests at its edges", many.getOrDefault(promise, 0) > 0 ? 1 : 0, 1);
        }
        Check.due("the first promise", many.firstKey(), 1);
        Check.due("the last promise", many.lastKey(), PROMISES);
        Check.end("PromisesTest");
    }
}
