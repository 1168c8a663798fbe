/** Tells the answers that are not as due, and what the tests share. */
final class Check {
    static final int NONE = -6, UNKNOWN = -1, OUTSIDE = -2, STATE = -3, FULL = -4, NO = -5;
    static final long REFUSED = -1000000000000000002L;
    private static int wrong;

    private Check() {
    }

    static void due(String call, long got, long want) {
        if (got != want) {
            wrong++;
            System.out.println(call + " answered " + got + ", due is " + want);
        }
    }

    static void end() {
        System.out.println(wrong == 0 ? "all answers are as due" : wrong + " answers are not as due");
        if (wrong != 0) {
            System.exit(1);
        }
    }

    /** Writes a text on the pad in place of what stood there. */
    static void write(GlobeCrown crown, String text) {
        crown.wipe();
        for (int i = 0; i < text.length(); i++) {
            crown.say(text.charAt(i));
        }
    }

    static void reign(GlobeCrown crown, String text, int acts) {
        write(crown, text);
        due("done() of " + text, crown.done(), acts);
    }

    /** All that told() tells, to see whether a call changed something. */
    static String all(GlobeCrown crown) {
        StringBuilder all = new StringBuilder();
        for (int what = 0; what < 106; what++) {
            all.append(crown.told(what)).append(' ');
        }
        return all.append(crown.who(-1)).append(' ').append(crown.fault()).toString();
    }

    /** A call that is refused answers so, and changes nothing; call is made ahead of this. */
    static void unchanged(GlobeCrown crown, String before, String call) {
        String after = all(crown);
        if (!after.equals(before)) {
            due(call + " changed something: " + before + " became " + after, 1, 0);
        }
    }

    /** A (water 50, leaks 3), B in it (99, music), C (free). */
    static GlobeCrown three() {
        GlobeCrown crown = new GlobeCrown();
        crown.globe(0, 50, 40, 3, false);
        crown.globe(1, 99, 99, 0, true);
        crown.globe(2, 0, 20, 5, false);
        crown.put(1, 0);
        return crown;
    }
}
