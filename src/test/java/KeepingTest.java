/** Promises 26 to 28: images, and what is told. */
public final class KeepingTest {
    private static final int OUTSIDE = Check.OUTSIDE, STATE = Check.STATE;

    public static void main(String[] args) {
        images();
        imagesRefused();
        told();
        Check.end();
    }

    private static GlobeCrown full() {
        GlobeCrown crown = Check.three();
        crown.mood(0, 3, 8);
        Check.reign(crown, "A1.", 2);
        crown.rank(2, 543210);
        crown.seen(20, 6);
        return crown;
    }

    private static void images() {
        GlobeCrown crown = full();
        String kept = Check.all(crown);
        Check.due("image(1)", crown.image(1), 1);
        Check.due("restore(0)", crown.restore(0), STATE);
        crown.globe(5, 1, 2, 3, true);
        crown.globe(0, 9, 8, 7, true);
        Check.reign(crown, "B#A9..", 4);
        crown.rank(2, 12345);
        crown.rank(0, 543210);
        crown.seen(20, 99);
        String later = Check.all(crown);
        Check.due("image(0)", crown.image(0), 1);
        Check.due("restore(1)", crown.restore(1), 1);
        Check.unchanged(crown, kept, "restore(1)");
        Check.due("the sight itself", crown.who(0), 218);
        Check.due("restore(0)", crown.restore(0), 1);
        Check.unchanged(crown, later, "restore(0)");
        Check.due("no one fits", crown.who(-1), 0);
        Check.due("restore(1) again", crown.restore(1), 1);
        Check.unchanged(crown, kept, "restore(1) again");
        Check.reign(crown, "B9", 1);
        Check.due("the image is as it was", crown.restore(1), 1);
        Check.unchanged(crown, kept, "restore(1) behind a reign");
        Check.write(crown, "A1B");
        Check.due("restore(0)", crown.restore(0), 1);
        Check.due("the pad stays", crown.told(0), 3);
        Check.due("the pad stays", crown.fault(), 3);
        Check.due("image over an image", crown.image(1), 1);
        crown.wipe();
        Check.due("restore(1)", crown.restore(1), 1);
        Check.unchanged(crown, later, "an image over an image");
    }

    private static void imagesRefused() {
        GlobeCrown crown = full();
        String before = Check.all(crown);
        Check.due("image(2)", crown.image(2), OUTSIDE);
        Check.due("image(-1)", crown.image(-1), OUTSIDE);
        Check.due("restore(2)", crown.restore(2), OUTSIDE);
        Check.due("restore(-1)", crown.restore(-1), OUTSIDE);
        Check.due("restore(0)", crown.restore(0), STATE);
        Check.due("restore(1)", crown.restore(1), STATE);
        Check.unchanged(crown, before, "restore");
        Check.due("image of nothing", new GlobeCrown().image(0), 1);
    }

    private static void told() {
        GlobeCrown crown = full();
        crown.say('x');
        int[] due = {1, 7, 3, 4, 13, 1, 1, OUTSIDE, OUTSIDE, OUTSIDE,
            47, 40, 3, 3, 3, 0, 9, Check.NONE, OUTSIDE, OUTSIDE,
            99, 99, 3, 0, 0, 1, 6, 0, OUTSIDE, OUTSIDE,
            0, 20, 0, 5, 0, 0, 4, Check.NONE, OUTSIDE, OUTSIDE};
        for (int what = 0; what < 100; what++) {
            Check.due("told(" + what + ")", crown.told(what), what < 40 ? due[what] : OUTSIDE);
        }
        for (int one = 0; one < 6; one++) {
            Check.due("told(10" + one + ")", crown.told(100 + one), one == 2 ? 543210 : 12345);
        }
        int[] outside = {-1, -6, -100, 106, 110, 200, Integer.MAX_VALUE, Integer.MIN_VALUE};
        for (int what : outside) {
            Check.due("told(" + what + ")", crown.told(what), OUTSIDE);
        }
        crown.globe(7, 1, 2, 3, true);
        crown.put(7, 1);
        int[] h = {1, 2, 0, 3, 0, 1, 5, 1, OUTSIDE, OUTSIDE};
        for (int i = 0; i < 10; i++) {
            Check.due("told(8" + i + ")", crown.told(80 + i), h[i]);
        }
        Check.due("told(1)", crown.told(1), 135);
    }
}
