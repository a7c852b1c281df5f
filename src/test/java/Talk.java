import java.lang.reflect.InvocationTargetException;
import java.lang.reflect.Method;
import java.util.ArrayList;
import java.util.HashMap;
import java.util.List;
import java.util.Map;

/**
 * An object of the class that is called by words: "guest(0, 5)"; "text thirst 1" feeds what stands behind
 * the blank, sign by sign; "house thirst 1" does, and calls house().
 */
final class Talk {
    private static final int MOST_CALLS = 512;
    private static final Map<String, Method> FACE = new HashMap<>();

    static {
        for (Method m : LeavesRoom.class.getMethods()) {
            FACE.put(m.getName(), m);
        }
    }

    private final LeavesRoom x = new LeavesRoom();
    private final List<String> said = new ArrayList<>();
    private int calls;

    Talk(String... calls) {
        for (String call : calls) {
            say(call);
        }
    }

    /** Three GUESTS, a HOUSE, a row of each that is told by hand, an IMAGE and what came behind it. */
    static Talk lively() {
        return new Talk("guest(6, 2)", "guest(4, 7)", "guest(0, 1)",
            "house thirst 3;bear 4 p=0&y=1;shun 5 q=2", "row(0, 0, 9)", "row(0, 3, 8)", "pass(1)", "pour(2)",
            "see(0, true, 2)", "plan(0, 0)", "plan(3, 1)", "book(0, 4)", "book(1, 0)",
            "tape(0, 0, 3)", "item(0, 0, 4)", "item(0, 2, 5)", "tape(1, 3, 2)", "item(1, 1, 7)", "image()",
            "sit(0, 4)", "leave(1, true)", "pass(1)", "pour(3)", "see(2, false, 1)", "plan(1, 2)", "book(0, 4)",
            "act(0, 2, 5)", "text thirst 4");
    }

    /** Likewise, with six GUESTS of six KINDS. */
    static Talk crowded() {
        Talk x = lively();
        x.say("guest(5, 4)");
        x.say("guest(3, 9)");
        x.say("guest(2, 3)");
        x.say("sit(5, 0)");
        return x;
    }

    /** Another object behind the same calls. */
    Talk twin() {
        return new Talk(said.toArray(new String[0]));
    }

    long say(String call) {
        said.add(call);
        if (call.startsWith("text ") || call.startsWith("house ")) {
            long answer = 0;
            for (char sign : call.substring(call.indexOf(' ') + 1).toCharArray()) {
                answer = called("feed(" + (int) sign + ")");
            }
            return call.startsWith("house ") ? called("house()") : answer;
        }
        return called(call);
    }

    /** So many times. */
    Talk say(String call, int times) {
        for (int i = 0; i < times; i++) {
            say(call);
        }
        return this;
    }

    private long called(String call) {
        calls++;
        if (calls > MOST_CALLS) {
            throw new IllegalStateException("what the call " + calls + " answers is free: " + call);
        }
        int open = call.indexOf('(');
        Method m = FACE.get(call.substring(0, open));
        String inside = call.substring(open + 1, call.length() - 1);
        String[] words = inside.isEmpty() ? new String[0] : inside.split(", ");
        Object[] arguments = new Object[words.length];
        for (int i = 0; i < words.length; i++) {
            arguments[i] = argument(words[i], m.getParameterTypes()[i]);
        }
        try {
            return ((Number) m.invoke(x, arguments)).longValue();
        } catch (IllegalAccessException | InvocationTargetException e) {
            throw new IllegalStateException(call, e);
        }
    }

    private static Object argument(String word, Class<?> type) {
        if (type == boolean.class) {
            return Boolean.valueOf(word);
        }
        if (type == long.class) {
            return Long.valueOf(word);
        }
        return Integer.valueOf(word);
    }

    /** The call is made, and its answer is as due. */
    Talk due(String call, long want) {
        Check.due(call, say(call), want);
        return this;
    }

    /** The answer to a call that leaves all else as it was; two others tell that, behind the same calls. */
    Talk leavesAll(String call, long want) {
        Talk one = twin();
        one.due(call, want);
        Check.alike(call + " leaves all as it was", one.looks(), twin().looks());
        return this;
    }

    /** Another one, behind other calls, is as this one is. */
    Talk isAs(String what, Talk other) {
        Check.alike(what, twin().looks(), other.twin().looks());
        return this;
    }

    Talk refuses(String call, long want) {
        return leavesAll(call, want);
    }

    Talk asks(String call, long want) {
        return leavesAll(call, want);
    }

    // ---- all that can be seen of an object, its calls and their answers; what is looked through is spoilt

    private List<String> looks() {
        List<String> seen = new ArrayList<>();
        lookAtAll(seen);
        look(seen, "house()");
        lookAtHouse(seen);
        if (look(seen, "undo()") >= 0) {
            lookAtGuests(seen);
            lookAtHouse(seen);
            lookAtTold(seen);
        }
        return seen;
    }

    private long look(List<String> seen, String call) {
        long answer = called(call);
        seen.add(call + " = " + answer);
        return answer;
    }

    private void lookAtAll(List<String> seen) {
        look(seen, "count(1)");
        look(seen, "count(5)");
        long ran = look(seen, "count(6)");
        for (int i = 0; i <= ran; i++) {
            look(seen, "trace(" + i + ")");
        }
        for (int t = 0; t < 6; t++) {
            look(seen, "judge(" + t + ", 0)");
            for (int i = 0; look(seen, "read(" + t + ", " + i + ")") != LeavesRoom.NO; i++) {
                continue;
            }
        }
        lookAtHouse(seen);
        lookAtTold(seen);
        lookAtGuests(seen);
    }

    private void lookAtTold(List<String> seen) {
        for (int what = 2; what <= 4; what++) {
            look(seen, "count(" + what + ")");
        }
        for (int what = 0; what <= 8; what++) {
            look(seen, "told(" + what + ")");
        }
        look(seen, "on(60, 0)");
        look(seen, "on(60, 1)");
        look(seen, "best(0)");
        look(seen, "peace(0)");
        look(seen, "peace(1)");
        look(seen, "change()");
        look(seen, "mean(0)");
        look(seen, "ends(0)");
        look(seen, "ends(1)");
        look(seen, "looked()");
    }

    private void lookAtGuests(List<String> seen) {
        long guests = look(seen, "count(0)");
        for (int g = 0; g < guests; g++) {
            for (int what = 0; what <= 7; what++) {
                look(seen, "of(" + g + ", " + what + ")");
            }
            look(seen, "where(" + g + ")");
            look(seen, "can(" + g + ", 0)");
            look(seen, "told(" + (10 + g) + ")");
            for (int part = 0; part < 4 && called("of(" + g + ", 0)") == 6; part++) {
                look(seen, "row(" + g + ", " + part + ", 0)");
            }
        }
    }

    private void lookAtHouse(List<String> seen) {
        look(seen, "told(1)");
        look(seen, "told(2)");
        long guests = look(seen, "count(0)");
        for (int g = 1; g < guests; g++) {
            look(seen, "likes(0, " + g + ")");
            look(seen, "likes(" + g + ", 0)");
        }
    }
}
