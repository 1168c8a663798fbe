/** Promises 1 to 8: a new object, globes, the pad. */
public final class GlobesTest {
    private static final int NONE = Check.NONE, UNKNOWN = Check.UNKNOWN, OUTSIDE = Check.OUTSIDE;
    private static final int STATE = Check.STATE, FULL = Check.FULL;

    public static void main(String[] args) {
        newObject();
        globe();
        globeAnew();
        fly();
        mood();
        put();
        say();
        wipe();
        fault();
        Check.end();
    }

    private static void newObject() {
        GlobeCrown crown = new GlobeCrown();
        for (int what = 0; what <= 6; what++) {
            Check.due("new: told(" + what + ")", crown.told(what), 0);
        }
        for (int what = 10; what < 90; what++) {
            Check.due("new: told(" + what + ")", crown.told(what), OUTSIDE);
        }
        for (int one = 0; one < 6; one++) {
            Check.due("new: told(10" + one + ")", crown.told(100 + one), 12345);
        }
        Check.due("new: restore(0)", crown.restore(0), STATE);
        Check.due("new: restore(1)", crown.restore(1), STATE);
    }

    private static void globe() {
        GlobeCrown crown = new GlobeCrown();
        Check.due("globe(7)", crown.globe(7, 99, 98, 9, true), 1);
        Check.due("globe(0)", crown.globe(0, 0, 0, 0, false), 2);
        int[] h = {99, 98, 0, 9, 0, 1, 5, NONE};
        int[] a = {0, 0, 0, 0, 0, 0, 5, NONE};
        for (int i = 0; i < 8; i++) {
            Check.due("told(8" + i + ")", crown.told(80 + i), h[i]);
            Check.due("told(1" + i + ")", crown.told(10 + i), a[i]);
        }
        String before = Check.all(crown);
        Check.due("globe(-1)", crown.globe(-1, 1, 1, 1, true), UNKNOWN);
        Check.due("globe(8)", crown.globe(8, 1, 1, 1, true), UNKNOWN);
        Check.due("globe(8) and water", crown.globe(8, 100, 1, 1, true), UNKNOWN);
        int[][] outside = {{-1, 1, 1}, {100, 1, 1}, {1, -1, 1}, {1, 100, 1}, {1, 1, -1}, {1, 1, 10}};
        for (int[] row : outside) {
            Check.due("globe outside", crown.globe(3, row[0], row[1], row[2], true), OUTSIDE);
            Check.due("globe outside", crown.globe(7, row[0], row[1], row[2], true), OUTSIDE);
        }
        Check.unchanged(crown, before, "globe");
    }

    private static void globeAnew() {
        GlobeCrown crown = Check.three();
        crown.put(0, 2);
        crown.fly(0, 30);
        crown.mood(0, 4, 8);
        Check.due("globe anew", crown.globe(0, 1, 2, 3, true), 3);
        int[] due = {1, 2, 0, 3, 0, 1, 5, 2};
        for (int i = 0; i < 8; i++) {
            Check.due("anew: told(1" + i + ")", crown.told(10 + i), due[i]);
        }
        Check.due("what is in it stays", crown.told(27), 0);
        Check.due("music goes", crown.globe(0, 1, 2, 3, false), 3);
        Check.due("music gone", crown.told(15), 0);
        Check.reign(crown, "A#", 1);
        Check.due("back on the shelf", crown.globe(0, 1, 2, 3, true), 3);
        Check.due("back: in", crown.told(17), NONE);
        Check.due("what was in it does not come back", crown.told(27), 2);
    }

    private static void fly() {
        GlobeCrown crown = Check.three();
        Check.due("fly(0, 40)", crown.fly(0, 40), 0);
        Check.due("fly(0, 0)", crown.fly(0, 0), 40);
        Check.due("fly of a free one", crown.fly(2, 20), 0);
        Check.due("told(2)", crown.told(2), 4);
        String before = Check.all(crown);
        Check.due("fly(0, 41)", crown.fly(0, 41), OUTSIDE);
        Check.due("fly(0, -1)", crown.fly(0, -1), OUTSIDE);
        Check.due("fly(3, 0)", crown.fly(3, 0), UNKNOWN);
        Check.due("fly(-1, -1)", crown.fly(-1, -1), UNKNOWN);
        Check.due("fly(8, 0)", crown.fly(8, 0), UNKNOWN);
        Check.unchanged(crown, before, "fly");
    }

    private static void mood() {
        GlobeCrown crown = Check.three();
        Check.due("mood(0, 9, 0)", crown.mood(0, 9, 0), 5);
        Check.due("mood(0, 0, 9)", crown.mood(0, 0, 9), 90);
        Check.due("mood(0, 3, 4)", crown.mood(0, 3, 4), 9);
        Check.due("cloudy", crown.told(14), 3);
        Check.due("content", crown.told(16), 4);
        Check.due("another's content", crown.told(26), 5);
        String before = Check.all(crown);
        Check.due("mood cloudy 10", crown.mood(0, 10, 0), OUTSIDE);
        Check.due("mood cloudy -1", crown.mood(0, -1, 0), OUTSIDE);
        Check.due("mood content 10", crown.mood(0, 0, 10), OUTSIDE);
        Check.due("mood content -1", crown.mood(0, 0, -1), OUTSIDE);
        Check.due("mood(5)", crown.mood(5, 10, 0), UNKNOWN);
        Check.unchanged(crown, before, "mood");
    }

    private static void put() {
        GlobeCrown crown = Check.three();
        String before = Check.all(crown);
        Check.due("put into itself", crown.put(0, 0), STATE);
        Check.due("put into what is in it", crown.put(0, 1), STATE);
        Check.due("put(3, 0)", crown.put(3, 0), UNKNOWN);
        Check.due("put(0, 3)", crown.put(0, 3), UNKNOWN);
        Check.due("put(0, -2)", crown.put(0, -2), UNKNOWN);
        Check.due("put(0, 8)", crown.put(0, 8), UNKNOWN);
        Check.due("put(-1, -1)", crown.put(-1, -1), UNKNOWN);
        Check.due("put where it is", crown.put(1, 0), 0);
        Check.due("put on the shelf, where it is", crown.put(0, -1), NONE);
        Check.unchanged(crown, before, "put");
        Check.due("put(0, 2)", crown.put(0, 2), NONE);
        Check.due("put(2, 1), two deep", crown.put(2, 1), STATE);
        Check.due("put(1, 2)", crown.put(1, 2), 0);
        Check.due("put(1, -1)", crown.put(1, -1), 2);
        Check.due("on the shelf", crown.told(27), NONE);
        Check.due("put(2, 1)", crown.put(2, 1), NONE);
        Check.due("look(0, 1)", crown.look(0, 1), 2);
    }

    private static void say() {
        GlobeCrown crown = new GlobeCrown();
        Check.due("say(32)", crown.say(32), OUTSIDE);
        Check.due("say(127)", crown.say(127), OUTSIDE);
        Check.due("say(-5)", crown.say(-5), OUTSIDE);
        Check.due("say(33)", crown.say(33), 1);
        Check.due("say(126)", crown.say(126), 2);
        for (int i = 3; i <= 60; i++) {
            Check.due("say, " + i, crown.say('.'), i);
        }
        Check.due("say, 61", crown.say('.'), FULL);
        Check.due("say outside on a full pad", crown.say(32), OUTSIDE);
        Check.due("told(0)", crown.told(0), 60);
    }

    private static void wipe() {
        GlobeCrown crown = new GlobeCrown();
        Check.due("wipe", crown.wipe(), 0);
        Check.write(crown, "A1.");
        Check.due("wipe", crown.wipe(), 3);
        Check.due("told(0)", crown.told(0), 0);
        Check.due("say anew", crown.say('.'), 1);
    }

    private static void fault() {
        GlobeCrown crown = new GlobeCrown();
        String[] good = {"", ".", "A1", "H9", "A+A=A/A^A#", "A>H", "A>A", "..B>C.", "D5.D5"};
        for (String text : good) {
            Check.write(crown, text);
            Check.due("fault of " + text, crown.fault(), NONE);
        }
        String[] bad = {"A", "A>", "I", "@", "a", "1", "A0", "A:", "A.", "AA", "A!", "A>I", "A>1", "A>>",
            "A>.", "+", "A1B", "A1B>", "..A1x", "A1C2D>H#", "A*", "A-", "A,", "A?", "A<", "A]", "A_", "A$"};
        int[] place = {1, 2, 0, 0, 0, 0, 1, 1, 1, 1, 1, 2, 2, 2,
            2, 0, 3, 4, 4, 7, 1, 1, 1, 1, 1, 1, 1, 1};
        for (int i = 0; i < bad.length; i++) {
            Check.write(crown, bad[i]);
            Check.due("fault of " + bad[i], crown.fault(), place[i]);
        }
        for (int sign = 33; sign < 127; sign++) {
            String one = String.valueOf((char) sign);
            boolean isLetter = sign >= 'A' && sign <= 'H';
            Check.write(crown, one);
            Check.due("fault of " + one, crown.fault(), sign == '.' ? NONE : isLetter ? 1 : 0);
            Check.write(crown, "A" + one);
            boolean isDeed = "123456789+=/^#".indexOf(sign) >= 0;
            Check.due("fault of A" + one, crown.fault(), isDeed ? NONE : sign == '>' ? 2 : 1);
            Check.write(crown, "A>" + one);
            Check.due("fault of A>" + one, crown.fault(), isLetter ? NONE : 2);
        }
    }
}
