/** Promises 9 to 13: reigns judged, done, told behind, and looks. */
public final class ReignsTest {
    private static final int NONE = Check.NONE, UNKNOWN = Check.UNKNOWN, OUTSIDE = Check.OUTSIDE, NO = Check.NO;

    public static void main(String[] args) {
        judgeReasons();
        judgeRefused();
        hourThatIsTheLast();
        doneShakes();
        doneHours();
        doneWater();
        donePlaces();
        doneRefused();
        behind();
        then();
        firstFree();
        look();
        Check.end();
    }

    private static void judgeReasons() {
        GlobeCrown crown = Check.three();
        Check.judged(crown, "", NONE, NONE);
        Check.judged(crown, "A1A2", NONE, NONE);
        Check.judged(crown, "D1", 0, 1);
        Check.judged(crown, "A1D>A", 1, 1);
        Check.judged(crown, "A>D", 0, 1);
        Check.judged(crown, "D>D", 0, 1);
        Check.judged(crown, "D#", 0, 1);
        Check.judged(crown, "..D/", 2, 1);
        Check.judged(crown, "C1", 0, 2);
        Check.judged(crown, "C=C1", NONE, NONE);
        Check.judged(crown, "A^", 0, 3);
        Check.judged(crown, "B^B^", 1, 3);
        Check.judged(crown, "B>A", 0, 3);
        Check.judged(crown, "B>CB>A", NONE, NONE);
        Check.judged(crown, "A>B", 0, 4);
        Check.judged(crown, "A>A", 0, 4);
        Check.judged(crown, "A>CC>B", 1, 4);
        Check.judged(crown, "B^A>B", NONE, NONE);
        Check.judged(crown, "B+", 0, 5);
        Check.judged(crown, "B=", 0, 5);
        Check.judged(crown, "A/", 0, 5);
        Check.judged(crown, "A+A/A/", 2, 5);
        Check.judged(crown, "A+A+", 1, 5);
        Check.judged(crown, "A+.A+A/", NONE, NONE);
        Check.judged(crown, "A#A1", 1, 1);
        Check.judged(crown, "A#B^", 1, 3);
        Check.judged(crown, "A#B>A", 1, 1);
        Check.judged(crown, "C1D1", 0, 2);
    }

    private static void judgeRefused() {
        GlobeCrown crown = Check.three();
        Check.write(crown, "A1B");
        Check.due("judge(2)", crown.judge(2), OUTSIDE);
        Check.due("judge(-1)", crown.judge(-1), OUTSIDE);
        Check.due("judge(0) with a fault", crown.judge(0), NO);
        Check.due("judge(1) with a fault", crown.judge(1), NO);
        Check.write(crown, "C1B");
        Check.due("a fault goes ahead of an act", crown.judge(0), NO);
    }

    /** More calls than an object is promised to have, for no fewer reach that hour. */
    private static void hourThatIsTheLast() {
        GlobeCrown crown = new GlobeCrown();
        String hours = ".".repeat(60);
        for (int i = 0; i < 16; i++) {
            Check.reign(crown, hours, 60);
        }
        Check.reign(crown, ".".repeat(39), 39);
        Check.due("the hour", crown.told(5), 999);
        Check.judged(crown, ".", 0, 6);
        Check.due("done at 999", crown.done(), NO);
        crown.globe(0, 99, 99, 9, false);
        Check.judged(crown, "A1.A1", 1, 6);
        Check.due("a year without hours", crown.year(3, 99, 2), 0);
    }

    private static void doneShakes() {
        GlobeCrown crown = Check.three();
        crown.mood(0, 0, 3);
        crown.mood(1, 0, 7);
        Check.reign(crown, "A2", 1);
        Check.due("flying in A", crown.told(12), 20);
        Check.due("flying in B", crown.told(22), 20);
        Check.due("flying in C", crown.told(32), 0);
        Check.due("taxes", crown.told(4), 10);
        Check.reign(crown, "B9A9", 2);
        Check.due("all at the most in A", crown.told(12), 40);
        Check.due("all at the most in B", crown.told(22), 99);
        Check.due("taxes", crown.told(4), 27);
        Check.due("the pad is empty", crown.told(0), 0);

        GlobeCrown free = Check.three();
        free.put(2, 0);
        free.put(1, 2);
        free.mood(2, 0, 9);
        Check.reign(free, "A1", 1);
        Check.due("not of a free one", free.told(32), 0);
        Check.due("of what is in a free one", free.told(22), 10);
        Check.due("taxes of no free one", free.told(4), 10);
    }

    private static void doneHours() {
        GlobeCrown crown = new GlobeCrown();
        crown.globe(0, 5, 90, 3, false);
        crown.globe(1, 5, 90, 0, true);
        crown.globe(2, 5, 90, 9, false);
        crown.fly(0, 8);
        crown.fly(1, 7);
        Check.reign(crown, ".", 1);
        int[] due = {2, 90, 1, 3, 0, 0, 6, NONE, 5, 90, 0, 0, 0, 1, 6, NONE, 0, 90, 0, 9, 0, 0, 4, NONE};
        for (int i = 0; i < 24; i++) {
            int what = 10 * (i / 8 + 1) + i % 8;
            Check.due("behind an hour told(" + what + ")", crown.told(what), due[i]);
        }
        Check.reign(crown, ".", 1);
        Check.due("flying, 0 at least", crown.told(12), 0);
        Check.due("content by 1 more", crown.told(16), 7);
        Check.due("music: not less", crown.told(26), 6);
        Check.due("a free one, too", crown.told(36), 3);
        Check.due("water, 0 at least", crown.told(10), 0);
        Check.due("the hour", crown.told(5), 2);
        Check.reign(crown, "......", 6);
        Check.due("content, 0 at least", crown.told(36), 0);
        crown.fly(1, 90);
        Check.reign(crown, "......", 6);
        Check.due("content, 9 at most", crown.told(26), 9);
        Check.due("flying", crown.told(22), 48);
    }

    private static void doneWater() {
        GlobeCrown crown = Check.three();
        Check.reign(crown, "A+", 1);
        Check.due("water", crown.told(10), 99);
        Check.due("cloudy", crown.told(14), 1);
        Check.reign(crown, ".A=", 2);
        Check.due("water", crown.told(10), 99);
        Check.due("cloudy", crown.told(14), 1);
        crown.mood(0, 9, 5);
        Check.reign(crown, ".A+", 2);
        Check.due("cloudy by 9 at most", crown.told(14), 9);
        Check.reign(crown, "A/", 1);
        Check.due("a cloth", crown.told(14), 0);
        Check.due("a free one is filled", crown.told(3), 4);
        Check.reign(crown, "C+", 1);
        Check.due("a free one is filled", crown.told(3), 0);
        Check.due("no taxes", crown.told(4), 0);
    }

    private static void donePlaces() {
        GlobeCrown crown = Check.three();
        crown.globe(7, 9, 9, 9, false);
        Check.reign(crown, "A>CC>H", 2);
        Check.due("A in C", crown.told(17), 2);
        Check.due("B in A", crown.told(27), 0);
        Check.due("C in H", crown.told(37), 7);
        Check.reign(crown, "C#", 1);
        Check.due("A stands where C did", crown.told(17), 7);
        Check.due("B is still in A", crown.told(27), 0);
        Check.due("C is no more", crown.told(37), OUTSIDE);
        Check.due("globes", crown.told(1), 131);
        Check.due("no free one", crown.told(3), 0);
        Check.reign(crown, "H#", 1);
        Check.due("A on the shelf", crown.told(17), NONE);
        Check.reign(crown, "B^", 1);
        Check.due("B on the shelf", crown.told(27), NONE);
    }

    private static void doneRefused() {
        GlobeCrown crown = Check.three();
        Check.due("done, empty", crown.done(), 0);
        String[] texts = {"A1A", "A1x", "A1C1", "A1A^", "A1B+", "A1.D#"};
        for (String text : texts) {
            Check.write(crown, text);
            String before = Check.all(crown);
            Check.due("done of " + text, crown.done(), NO);
            Check.due("behind of " + text, crown.behind(0, 0), NO);
            Check.due("then of " + text, crown.then(0), NO);
            Check.unchanged(crown, before, "done of " + text);
        }
    }

    private static void behind() {
        GlobeCrown crown = Check.three();
        Check.write(crown, "A3A+.C#");
        String before = Check.all(crown);
        int[] due = {23, 96, 1, 6, 23, 99, 0, 6, NONE, NONE, NONE, NONE};
        for (int i = 0; i < 12; i++) {
            Check.due("behind(" + i / 4 + ", " + i % 4 + ")", crown.behind(i / 4, i % 4), due[i]);
        }
        Check.due("behind(3, 0)", crown.behind(3, 0), UNKNOWN);
        Check.due("behind(-1, 9)", crown.behind(-1, 9), UNKNOWN);
        Check.due("behind(0, 4)", crown.behind(0, 4), OUTSIDE);
        Check.due("behind(0, -1)", crown.behind(0, -1), OUTSIDE);
        Check.unchanged(crown, before, "behind");
        Check.write(crown, "Z");
        Check.due("outside ahead of no", crown.behind(0, 4), OUTSIDE);
        Check.due("unknown ahead of no", crown.behind(4, 0), UNKNOWN);
        Check.due("no", crown.behind(0, 3), NO);
    }

    private static void then() {
        GlobeCrown crown = Check.three();
        crown.fly(2, 20);
        Check.write(crown, "A3..");
        String before = Check.all(crown);
        int[] due = {7, 4, 10, 2, NONE, NONE};
        for (int what = 0; what < 6; what++) {
            Check.due("then(" + what + ")", crown.then(what), due[what]);
        }
        Check.due("then(6)", crown.then(6), OUTSIDE);
        Check.due("then(-1)", crown.then(-1), OUTSIDE);
        Check.unchanged(crown, before, "then");
        Check.write(crown, "C#A1");
        Check.due("no snow in what is no more", crown.then(0), 3);
        Check.due("nor is it free", crown.then(1), 0);
        Check.write(crown, "A");
        Check.due("outside ahead of no", crown.then(6), OUTSIDE);
        Check.due("no", crown.then(5), NO);
    }

    private static void firstFree() {
        GlobeCrown crown = new GlobeCrown();
        crown.globe(1, 10, 9, 5, false);
        crown.globe(2, 6, 9, 3, false);
        crown.globe(3, 50, 9, 9, false);
        crown.globe(0, 0, 9, 9, false);
        Check.write(crown, "D1..D1.");
        Check.due("the act", crown.then(4), 2);
        Check.due("the globe", crown.then(5), 1);
        Check.write(crown, "B#..");
        Check.due("the act", crown.then(4), 2);
        Check.due("the globe", crown.then(5), 2);
        Check.write(crown, "A=...........");
        Check.due("the act, others ahead", crown.then(4), 2);
        Check.write(crown, "B#C#D#A=...........");
        Check.due("free anew", crown.then(4), 14);
        Check.due("free anew", crown.then(5), 0);
        Check.write(crown, "B#C#A#.");
        Check.due("none is free", crown.then(4), NONE);
        Check.due("none is free", crown.then(5), NONE);
    }

    private static void lookDeep() {
        GlobeCrown crown = new GlobeCrown();
        for (int g = 0; g < 8; g++) {
            crown.globe(g, 9, 99, 1, false);
            crown.put(g, g - 1);
            crown.mood(g, 1, 5);
            crown.fly(g, 99);
        }
        for (int g = 0; g < 8; g++) {
            Check.due("look(" + g + ", 0)", crown.look(g, 0), 89 - 10 * g);
            Check.due("look(" + g + ", 1)", crown.look(g, 1), g);
        }
        Check.judged(crown, "A>H", 0, 4);
        Check.judged(crown, "H^A>H", NONE, NONE);
        crown.fly(7, 0);
        Check.reign(crown, "A1", 1);
        Check.due("seven in one another are shaken", crown.told(82), 10);
        Check.due("all pay", crown.told(4), 40);
        crown.fly(7, 1);
        Check.due("one flake is snow", crown.told(2), 255);
    }

    private static void look() {
        GlobeCrown crown = Check.three();
        crown.put(0, 2);
        crown.fly(1, 99);
        crown.fly(2, 15);
        Check.due("look(1, 0)", crown.look(1, 0), 99);
        Check.due("look(1, 1)", crown.look(1, 1), 2);
        Check.due("look(0, 1)", crown.look(0, 1), 1);
        Check.due("look(2, 1)", crown.look(2, 1), 0);
        crown.mood(1, 3, 0);
        crown.mood(0, 2, 0);
        crown.mood(2, 1, 0);
        Check.due("look(1, 0)", crown.look(1, 0), 39);
        Check.due("look(2, 0)", crown.look(2, 0), 5);
        crown.mood(2, 9, 0);
        Check.due("0 at least", crown.look(2, 0), 0);
        Check.due("0 at least", crown.look(1, 0), 0);
        lookDeep();
        Check.due("look(3, 5)", crown.look(3, 5), UNKNOWN);
        Check.due("look(-1, 0)", crown.look(-1, 0), UNKNOWN);
        Check.due("look(0, 2)", crown.look(0, 2), OUTSIDE);
        Check.due("look(0, -1)", crown.look(0, -1), OUTSIDE);
    }
}
