/** Counts the answers that are not as due. */
final class Check {
    private static int asked = 0;
    private static int wrong = 0;

    private Check() {
    }

    static void due(String call, long got, long want) {
        asked++;
        if (got != want) {
            wrong++;
            System.out.println(call + " answered " + got + ", due is " + want);
        }
    }

    /** What several calls answer, one behind the other. */
    static void dues(String calls, long[] got, long... want) {
        due(calls + ", how many", got.length, want.length);
        for (int i = 0; i < Math.min(got.length, want.length); i++) {
            due(calls + " [" + i + "]", got[i], want[i]);
        }
    }

    /** A new object with GUESTS: KIND, v, KIND, v and so on. */
    static LeavesRoom room(int... kindsAndVs) {
        LeavesRoom x = new LeavesRoom();
        for (int i = 0; i + 1 < kindsAndVs.length; i += 2) {
            due("guest", x.guest(kindsAndVs[i], kindsAndVs[i + 1]), i / 2);
        }
        return x;
    }

    static int house(LeavesRoom x, String text) {
        for (int i = 0; i < text.length(); i++) {
            x.feed(text.charAt(i));
        }
        return x.house();
    }

    /** A new object with GUESTS, among whom a HOUSE holds. */
    static LeavesRoom roomUnder(String text, int... kindsAndVs) {
        LeavesRoom x = room(kindsAndVs);
        due("house " + text, house(x, text), 0);
        return x;
    }

    static void end(String test) {
        System.out.println(test + ": " + asked + " answers, " + wrong + " not as due");
        if (wrong != 0 || asked == 0) {
            System.exit(1);
        }
    }
}
