import java.lang.reflect.InvocationTargetException;
import java.lang.reflect.Method;
import java.lang.reflect.Modifier;
import java.util.Arrays;
import java.util.Comparator;
import java.util.function.Supplier;

/** Tells the answers that are not as due, and what the tests share. */
final class Check {
    static final int NONE = -6, UNKNOWN = -1, OUTSIDE = -2, STATE = -3, FULL = -4, NO = -5;
    static final long REFUSED = -1000000000000000002L;
    private static final int MIN = Integer.MIN_VALUE, MAX = Integer.MAX_VALUE;
    private static int wrong;
    private static String test = "";

    private Check() {
    }

    /** A call of the face. */
    interface Call {
        long on(GlobeCrown crown);
    }

    /** A call of the face with a number left open. */
    interface CallWith {
        long on(GlobeCrown crown, int number);
    }

    static void due(String call, long got, long want) {
        if (got != want) {
            wrong++;
            System.out.println(test + call + " answered " + got + ", due is " + want);
        }
    }

    static void end() {
        System.out.println(wrong == 0 ? "all answers are as due" : wrong + " answers are not as due");
        if (wrong != 0) {
            System.exit(1);
        }
    }

    /** Runs every test of a class, which are its methods that take nothing, so that none is forgotten. */
    static void every(Class<?> tests) throws IllegalAccessException, InvocationTargetException {
        Method[] methods = tests.getDeclaredMethods();
        Arrays.sort(methods, Comparator.comparing(Method::getName));
        for (Method method : methods) {
            boolean isTest = method.getParameterCount() == 0 && method.getReturnType() == void.class;
            if (isTest && Modifier.isStatic(method.getModifiers())) {
                test = method.getName() + ": ";
                method.setAccessible(true);
                method.invoke(null);
            }
        }
        test = "";
        end();
    }

    /** Writes a text on the pad in place of what stood there. */
    static void write(GlobeCrown crown, String text) {
        crown.wipe();
        for (int i = 0; i < text.length(); i++) {
            crown.say(text.charAt(i));
        }
    }

    static void reign(GlobeCrown crown, String text, int acts) {
        write(crown, text);
        due("done() of " + text, crown.done(), acts);
    }

    /** What is judged of a text: the act that can not be, and why. */
    static void judged(GlobeCrown crown, String text, int act, int why) {
        write(crown, text);
        String before = all(crown);
        due("judge(0) of " + text, crown.judge(0), act);
        due("judge(1) of " + text, crown.judge(1), why);
        unchanged(crown, before, "judge of " + text);
    }

    /** All that told() tells, to see whether a call changed something. */
    static String all(GlobeCrown crown) {
        StringBuilder all = new StringBuilder();
        for (int what = 0; what < 106; what++) {
            all.append(crown.told(what)).append(' ');
        }
        return all.append(crown.who(-1)).append(' ').append(crown.fault()).toString();
    }

    /** A call that is refused answers so, and changes nothing; call is made ahead of this. */
    static void unchanged(GlobeCrown crown, String before, String call) {
        String after = all(crown);
        if (!after.equals(before)) {
            due(call + " changed something: " + before + " became " + after, 1, 0);
        }
    }

    /** All that can be known of a crown, its pad and its images too; it is used up by this. */
    private static String whole(GlobeCrown crown) {
        StringBuilder whole = new StringBuilder(all(crown));
        whole.append(" pad ").append(crown.judge(0)).append(' ').append(crown.judge(1));
        for (int what = 0; what < 6; what++) {
            whole.append(' ').append(crown.then(what));
        }
        for (int i = 0; i < 32; i++) {
            whole.append(' ').append(crown.behind(i / 4, i % 4));
        }
        whole.append(" sights ").append(crown.who(0)).append(' ').append(crown.ask(0));
        for (int n = 0; n < 2; n++) {
            whole.append(" image ").append(crown.restore(n)).append(' ').append(all(crown)).append(crown.who(0));
        }
        return whole.toString();
    }

    /** A refused call answers so, and behind it the crown is as one that was not asked. */
    static void refused(String call, Supplier<GlobeCrown> made, Call refused, long want) {
        GlobeCrown asked = made.get();
        due(call, refused.on(asked), want);
        String got = whole(asked);
        String as = whole(made.get());
        if (!got.equals(as)) {
            due(call + " changed something: " + as + " became " + got, 1, 0);
        }
    }

    /** The first and the last number are taken; the next on either side, and far ones, are refused. */
    static void range(String call, int low, int high, long refusal, CallWith asked) {
        range(call, Check::busy, low, high, refusal, asked);
    }

    static void range(String call, Supplier<GlobeCrown> made, int low, int high, long refusal, CallWith asked) {
        for (int number : new int[] {low, high}) {
            long answer = asked.on(made.get(), number);
            boolean isRefused = answer < 0 && answer != NONE;
            due(call + " of " + number + " (" + answer + ") is refused", isRefused ? 1 : 0, 0);
        }
        int[] outside = {low - 1, high + 1, MIN, MAX, low + 32, low + 256, low + 65536, high - 256, high - 65536};
        for (int number : outside) {
            if (number < low || number > high) {
                refused(call + " of " + number, made, crown -> asked.on(crown, number), refusal);
            }
        }
    }

    /** A (water 50, leaks 3), B in it (99, music), C (free). */
    static GlobeCrown three() {
        GlobeCrown crown = new GlobeCrown();
        crown.globe(0, 50, 40, 3, false);
        crown.globe(1, 99, 99, 0, true);
        crown.globe(2, 0, 20, 5, false);
        crown.put(1, 0);
        return crown;
    }

    /** Something of everything: the three, snow, taxes, an hour, ranks, sights, a pad; image 0 is kept, 1 is not. */
    static GlobeCrown busy() {
        GlobeCrown crown = three();
        crown.mood(0, 3, 8);
        reign(crown, "A1.", 2);
        crown.rank(2, 543210);
        crown.seen(20, 6);
        crown.image(0);
        crown.fly(1, 77);
        crown.rank(0, 102345);
        crown.seen(17, 0);
        write(crown, "A2.C=");
        return crown;
    }

    /** All is full: eight globes, each in the one ahead of it, every number at its most, 60 signs, 8 sights. */
    static GlobeCrown full() {
        GlobeCrown crown = new GlobeCrown();
        for (int g = 0; g < 8; g++) {
            crown.globe(g, 99, 99, 9, true);
            crown.put(g, g - 1);
            crown.fly(g, 99);
            crown.mood(g, 9, 9);
            crown.seen(60, 0);
        }
        crown.image(0);
        crown.image(1);
        write(crown, ".".repeat(60));
        return crown;
    }

    static GlobeCrown withPad(String text) {
        GlobeCrown crown = three();
        write(crown, text);
        return crown;
    }

    /** One globe, A, which is new. */
    static GlobeCrown one(int water, int flakes, int leaks, boolean music) {
        GlobeCrown crown = new GlobeCrown();
        crown.globe(0, water, flakes, leaks, music);
        return crown;
    }
}
