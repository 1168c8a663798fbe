/** The edges that the document names for reigns and promises 9 to 13; the words behind each test are the document's. */
public final class ReignsEdgesTest {
    private static final int NONE = Check.NONE, UNKNOWN = Check.UNKNOWN, OUTSIDE = Check.OUTSIDE, NO = Check.NO;

    public static void main(String[] args) throws ReflectiveOperationException {
        Check.every(ReignsEdgesTest.class);
    }

    /** What told() tells of a globe behind a reign. */
    private static void toldBehind(GlobeCrown crown, String text, int what, int due) {
        Check.write(crown, text);
        Check.due("done() of " + text + " is no", crown.done() == NO ? 1 : 0, 0);
        Check.due("told(" + what + ") behind " + text, crown.told(what), due);
    }

    private static GlobeCrown flying(int flakes, int v, boolean music) {
        GlobeCrown crown = Check.one(50, flakes, 1, music);
        crown.fly(0, v);
        return crown;
    }

    private static GlobeCrown mood(int cloudy, int content, int v, boolean music) {
        GlobeCrown crown = flying(99, v, music);
        crown.mood(0, cloudy, content);
        return crown;
    }

    // ---- acts

    /** "a digit 1 to 9 (.. 10 times so many FLAKES more are FLYING": the least and the most. */
    private static void shakenBy1And9() {
        toldBehind(flying(99, 0, false), "A1", 12, 10);
        toldBehind(flying(99, 0, false), "A9", 12, 90);
        toldBehind(flying(99, 5, false), "A9", 12, 95);
    }

    /** "all at the most". */
    private static void shakenAllAtTheMost() {
        toldBehind(flying(40, 29, false), "A1", 12, 39);
        toldBehind(flying(40, 30, false), "A1", 12, 40);
        toldBehind(flying(40, 31, false), "A1", 12, 40);
        toldBehind(flying(40, 40, false), "A1", 12, 40);
        toldBehind(flying(99, 99, false), "A9", 12, 99);
        toldBehind(flying(9, 0, false), "A1", 12, 9);
        toldBehind(flying(0, 0, false), "A9", 12, 0);
    }

    /** "of it, and of all that are in it, be it in others": seven in one another; not of what it is in. */
    private static void shakenWithAllThatIsInIt() {
        GlobeCrown crown = Check.full();
        for (int g = 0; g < 8; g++) {
            crown.fly(g, 0);
        }
        Check.reign(crown, "H1", 1);
        Check.due("the last alone", crown.told(2), 128);
        Check.reign(crown, "A1", 1);
        Check.due("all", crown.told(2), 255);
        Check.due("the last again", crown.told(82), 20);
        Check.due("taxes of nine shakings", crown.told(4), 81);
        GlobeCrown half = Check.full();
        for (int g = 0; g < 8; g++) {
            half.fly(g, 0);
        }
        Check.reign(half, "E1", 1);
        Check.due("it and what is in it", half.told(2), 240);
        Check.due("taxes of four", half.told(4), 36);
    }

    /** "not of FREE ones": but of what is in them. */
    private static void shakenNotOfFreeOnes() {
        GlobeCrown crown = Check.three();
        crown.put(2, 0);
        crown.put(1, 2);
        Check.reign(crown, "A1", 1);
        Check.due("A", crown.told(12), 10);
        Check.due("B, in the free one", crown.told(22), 10);
        Check.due("C, which is free", crown.told(32), 0);
        crown.globe(2, 1, 20, 5, false);
        Check.reign(crown, "A1", 1);
        Check.due("C with water of 1", crown.told(32), 10);
    }

    /** "TAXES are more by how CONTENT each of these is that is not FREE": by 0, by 9; without flakes, too. */
    private static void taxesByContent() {
        toldBehind(mood(0, 0, 0, false), "A1", 4, 0);
        toldBehind(mood(0, 9, 0, false), "A9", 4, 9);
        toldBehind(flying(0, 0, false), "A1", 4, 5);
        GlobeCrown crown = Check.three();
        crown.put(2, 0);
        crown.mood(2, 0, 9);
        toldBehind(crown, "A1", 4, 10);
    }

    /** No act but shaking brings taxes. */
    private static void taxesByShakingAlone() {
        toldBehind(Check.three(), "A+.A=A/C>BC^B#.", 4, 0);
    }

    /** "+ (.. WATER is 99, it is CLOUDY by 1 more, 9 at most)". */
    private static void filledFromTheTap() {
        toldBehind(mood(0, 5, 0, false), "A+", 14, 1);
        toldBehind(mood(8, 5, 0, false), "A+", 14, 9);
        toldBehind(mood(9, 5, 0, false), "A+", 14, 9);
        toldBehind(Check.one(0, 9, 9, false), "A+", 10, 99);
        toldBehind(Check.one(98, 9, 9, false), "A+", 10, 99);
        toldBehind(Check.one(0, 9, 9, false), "A+", 3, 0);
    }

    /** "= (by rain: WATER is 99)": and nothing more. */
    private static void filledByRain() {
        toldBehind(mood(8, 5, 0, false), "A=", 14, 8);
        toldBehind(Check.one(0, 9, 9, false), "A=", 10, 99);
        toldBehind(Check.one(98, 9, 9, false), "A=", 10, 99);
        toldBehind(Check.one(0, 9, 9, false), "A=", 3, 0);
    }

    /** "/ (a cloth: it is CLOUDY by 0)". */
    private static void wipedByACloth() {
        toldBehind(mood(1, 5, 0, false), "A/", 14, 0);
        toldBehind(mood(9, 5, 0, false), "A/", 14, 0);
        toldBehind(mood(9, 5, 0, false), "A/", 10, 50);
    }

    /** "> (.. it is put into that one, with all that is in it), ^ (it is put on the SHELF)". */
    private static void putWithAllThatIsInIt() {
        GlobeCrown crown = Check.full();
        Check.reign(crown, "B^A>H", 2);
        Check.due("B on the shelf", crown.told(27), NONE);
        Check.due("A in the last", crown.told(17), 7);
        Check.due("it is the deepest", crown.look(0, 1), 7);
        Check.reign(crown, "E>B", 1);
        Check.due("A went with it", crown.look(0, 1), 5);
    }

    /** "# (it is dropped: it is no more; what is in it stands where it did then)": in another, on the SHELF. */
    private static void dropped() {
        GlobeCrown crown = Check.full();
        Check.reign(crown, "D#", 1);
        Check.due("globes", crown.told(1), 247);
        Check.due("D is no more", crown.told(40), OUTSIDE);
        Check.due("E in C", crown.told(57), 2);
        Check.due("F in E", crown.told(67), 4);
        Check.reign(crown, "A#", 1);
        Check.due("B on the shelf", crown.told(27), NONE);
        Check.due("C in B", crown.told(37), 1);
        Check.reign(crown, "H#", 1);
        Check.due("globes", crown.told(1), 118);
        Check.reign(crown, "B#C#E#F#G#", 5);
        Check.due("no globe is left", crown.told(1), 0);
        Check.due("no snow", crown.told(2), 0);
    }

    /** "what is in it stands where it did then": each of several, and where it was put last. */
    private static void droppedWithSeveralInIt() {
        GlobeCrown crown = Check.three();
        crown.globe(3, 9, 9, 9, false);
        crown.put(2, 0);
        Check.reign(crown, "A>DA#", 2);
        Check.due("B in D", crown.told(27), 3);
        Check.due("C in D", crown.told(37), 3);
    }

    /** The first globe stands in a later one that is dropped. */
    private static void droppedWithTheFirstInIt() {
        GlobeCrown crown = Check.three();
        crown.put(1, -1);
        crown.put(0, 1);
        crown.put(1, 2);
        Check.reign(crown, "B#", 1);
        Check.due("A in C", crown.told(17), 2);
    }

    /** What told() tells otherwise behind an act, and nothing else. */
    private static void changedJust(String text, int... due) {
        GlobeCrown crown = Check.three();
        crown.mood(0, 3, 8);
        crown.fly(0, 1);
        StringBuilder changed = new StringBuilder();
        int[] before = new int[106];
        for (int what = 1; what < 106; what++) {
            before[what] = crown.told(what);
        }
        Check.write(crown, text);
        crown.done();
        for (int what = 1; what < 106; what++) {
            changed.append(crown.told(what) == before[what] ? "" : what + ", ");
        }
        StringBuilder wanted = new StringBuilder();
        for (int what : due) {
            wanted.append(what).append(", ");
        }
        Check.due(text + " changed " + changed + "due is " + wanted, changed.compareTo(wanted) == 0 ? 0 : 1, 0);
    }

    /** Each act changes what is told of it, and nothing else. */
    private static void actsChangeNothingElse() {
        changedJust("");
        changedJust("B1", 2, 4, 22);
        changedJust("A1", 2, 4, 12, 22);
        changedJust("A+", 10, 14);
        changedJust("C+", 3, 30, 34);
        changedJust("A=", 10);
        changedJust("A/", 14);
        changedJust("B>C", 27);
        changedJust("B^", 27);
        changedJust("C#", 1, 3, 30, 31, 32, 33, 34, 35, 36, 37);
        changedJust("A#", 1, 2, 10, 11, 12, 13, 14, 15, 16, 17, 27);
        changedJust(".", 2, 5, 10, 12, 16, 36);
    }

    /** A free one can be filled, wiped, put and dropped. */
    private static void allButShakingOfAFreeOne() {
        GlobeCrown crown = Check.three();
        crown.mood(2, 1, 5);
        Check.judged(crown, "C/C>BC^C#", NONE, NONE);
        Check.judged(crown, "C+", NONE, NONE);
        Check.judged(crown, "C=", NONE, NONE);
    }

    // ---- hours

    /** "in each GLOBE 7 FLAKES less are FLYING, 0 at least". */
    private static void hourFlying() {
        toldBehind(flying(99, 99, false), ".", 12, 92);
        toldBehind(flying(99, 8, false), ".", 12, 1);
        toldBehind(flying(99, 7, false), ".", 12, 0);
        toldBehind(flying(99, 6, false), ".", 12, 0);
        toldBehind(flying(99, 1, false), ".", 12, 0);
        toldBehind(flying(99, 0, false), ".", 12, 0);
    }

    /** "in each GLOBE": in all eight, in free ones, in those that are in others. */
    private static void hourInEach() {
        GlobeCrown crown = Check.full();
        Check.reign(crown, ".", 1);
        for (int g = 0; g < 8; g++) {
            Check.due("flying in " + g, crown.told(10 * g + 12), 92);
            Check.due("water in " + g, crown.told(10 * g + 10), 90);
        }
        GlobeCrown free = Check.one(0, 20, 5, false);
        free.fly(0, 20);
        Check.reign(free, ".", 1);
        Check.due("flying in a free one", free.told(12), 13);
        Check.due("content of a free one", free.told(16), 6);
    }

    /** "CONTENT by 1 more, 9 at most, if some were FLYING ahead of it": one flake is some. */
    private static void hourMoreContent() {
        toldBehind(mood(0, 8, 50, false), ".", 16, 9);
        toldBehind(mood(0, 9, 50, false), ".", 16, 9);
        toldBehind(mood(0, 0, 1, false), ".", 16, 1);
        toldBehind(mood(0, 8, 1, true), ".", 16, 9);
        toldBehind(mood(0, 9, 1, true), ".", 16, 9);
        toldBehind(mood(0, 5, 8, false), "..", 16, 7);
        toldBehind(mood(0, 5, 7, false), "..", 16, 5);
    }

    /** "else by 1 less, 0 at least". */
    private static void hourLessContent() {
        toldBehind(mood(0, 9, 0, false), ".", 16, 8);
        toldBehind(mood(0, 1, 0, false), ".", 16, 0);
        toldBehind(mood(0, 0, 0, false), ".", 16, 0);
    }

    /** "but for MUSIC": it is not less. */
    private static void hourWithMusic() {
        toldBehind(mood(0, 9, 0, true), ".", 16, 9);
        toldBehind(mood(0, 1, 0, true), ".", 16, 1);
        toldBehind(mood(0, 0, 0, true), ".", 16, 0);
    }

    /** "but for MUSIC": each has it for itself. */
    private static void hourWithMusicOfOne() {
        for (int g = 0; g < 8; g++) {
            GlobeCrown crown = new GlobeCrown();
            for (int other = 0; other < 8; other++) {
                crown.globe(other, 9, 9, 1, other == g);
            }
            Check.reign(crown, ".", 1);
            for (int other = 0; other < 8; other++) {
                Check.due("content of " + other, crown.told(10 * other + 16), other == g ? 5 : 4);
                Check.due("music of " + other, crown.told(10 * other + 15), other == g ? 1 : 0);
            }
        }
    }

    /** "WATER is less by what it LEAKS, 0 at least". */
    private static void hourWater() {
        toldBehind(Check.one(10, 9, 9, false), ".", 10, 1);
        toldBehind(Check.one(9, 9, 9, false), ".", 10, 0);
        toldBehind(Check.one(8, 9, 9, false), ".", 10, 0);
        toldBehind(Check.one(0, 9, 9, false), ".", 10, 0);
        toldBehind(Check.one(1, 9, 0, false), ".", 10, 1);
        toldBehind(Check.one(99, 9, 0, false), ".", 10, 99);
        toldBehind(Check.one(1, 9, 1, false), ".", 3, 1);
        toldBehind(Check.one(2, 9, 1, false), ".", 3, 0);
    }

    /** "an hour": one more, without globes, too. */
    private static void hourIsOneMore() {
        toldBehind(new GlobeCrown(), ".", 5, 1);
        toldBehind(new GlobeCrown(), ".".repeat(60), 5, 60);
        toldBehind(Check.three(), "A1.B1", 5, 1);
    }

    /** "6 it is hour 999 (.)": 998 is not; it takes more calls than an object is promised to have. */
    private static void hour999() {
        GlobeCrown crown = new GlobeCrown();
        for (int i = 0; i < 16; i++) {
            Check.reign(crown, ".".repeat(60), 60);
        }
        Check.reign(crown, ".".repeat(38), 38);
        Check.due("the hour", crown.told(5), 998);
        Check.judged(crown, ".", NONE, NONE);
        Check.judged(crown, "..", 1, 6);
        Check.reign(crown, ".", 1);
        Check.due("the hour", crown.told(5), 999);
        Check.judged(crown, ".", 0, 6);
        Check.due("done()", crown.done(), NO);
        Check.due("the hour", crown.told(5), 999);
        crown.globe(0, 99, 0, 9, false);
        Check.judged(crown, "A1.A1", 1, 6);
        Check.due("a year passes no hour then", crown.year(3, 99, 2), 0);
    }

    // ---- reasons

    private static void judged(String text, int act, int why) {
        Check.judged(Check.three(), text, act, why);
    }

    /** "1 there is no such GLOBE (one of both)": for each deed. */
    private static void reason1() {
        for (char deed : "19+=/^#".toCharArray()) {
            judged("D" + deed, 0, 1);
            judged("H" + deed, 0, 1);
        }
        judged("D>A", 0, 1);
        judged("A>D", 0, 1);
        judged("D>H", 0, 1);
        judged("A#A#", 1, 1);
    }

    /** "for the least of these reasons": 1 ahead of 4. */
    private static void reason1GoesAheadOf4() {
        judged("D>D", 0, 1);
    }

    /** "2 it is FREE (a digit)". */
    private static void reason2() {
        judged("C1", 0, 2);
        judged("C9", 0, 2);
        judged("C=C1", NONE, NONE);
        Check.judged(Check.one(1, 0, 1, false), "A1", NONE, NONE);
        Check.judged(Check.one(1, 0, 1, false), ".A1", 1, 2);
        Check.judged(Check.one(2, 0, 1, false), ".A1", NONE, NONE);
    }

    /** "3 it stands there already (>, ^)". */
    private static void reason3() {
        judged("B>A", 0, 3);
        judged("A^", 0, 3);
        judged("B>CB>C", 1, 3);
        judged("B^B^", 1, 3);
        judged("A#B^", 1, 3);
        judged("B>C", NONE, NONE);
        judged("B^B>A", NONE, NONE);
    }

    /** "4 it would be in itself, be it in others (>)": 0, 1 and 7 deep. */
    private static void reason4() {
        judged("A>A", 0, 4);
        judged("B>B", 0, 4);
        judged("A>B", 0, 4);
        GlobeCrown crown = Check.full();
        for (char in : "ABCDEFGH".toCharArray()) {
            Check.judged(crown, "A>" + in, 0, 4);
        }
        Check.judged(crown, "G>H", 0, 4);
        Check.judged(crown, "H>A", NONE, NONE);
        Check.judged(crown, "H^A>H", NONE, NONE);
        judged("A>CC>B", 1, 4);
    }

    /** "5 WATER is 99 (+, =)". */
    private static void reason5OfWater() {
        Check.judged(Check.one(99, 9, 9, false), "A+", 0, 5);
        Check.judged(Check.one(99, 9, 9, false), "A=", 0, 5);
        Check.judged(Check.one(98, 9, 9, false), "A+", NONE, NONE);
        Check.judged(Check.one(98, 9, 9, false), "A=", NONE, NONE);
        Check.judged(Check.one(98, 9, 9, false), "A=A+", 1, 5);
        Check.judged(Check.one(99, 9, 0, false), ".A+", 1, 5);
        Check.judged(Check.one(99, 9, 1, false), ".A+", NONE, NONE);
    }

    /** "5 .. it is not CLOUDY (/)". */
    private static void reason5OfClouds() {
        Check.judged(mood(0, 5, 0, false), "A/", 0, 5);
        Check.judged(mood(1, 5, 0, false), "A/", NONE, NONE);
        Check.judged(mood(9, 5, 0, false), "A/A/", 1, 5);
    }

    // ---- promise 9: judge

    /** "the ACT (what = 0), why (1)"; "OUTSIDE". */
    private static void judgeIs0Or1() {
        Check.range("judge(..)", 0, 1, OUTSIDE, GlobeCrown::judge);
    }

    /** "NO: there is a FAULT": also where an ACT ahead of it can not be. */
    private static void judgeOfAFault() {
        for (String text : new String[] {"x", "A", "A>", "A1x", "C1x", "C1A", ".".repeat(59) + "A"}) {
            Check.refused("judge(0) of " + text, () -> Check.withPad(text), crown -> crown.judge(0), NO);
            Check.refused("judge(1) of " + text, () -> Check.withPad(text), crown -> crown.judge(1), NO);
        }
    }

    /** "the first of these that fits: OUTSIDE, NO". */
    private static void judgeOutsideGoesAheadOfNo() {
        Check.refused("judge(2)", () -> Check.withPad("A"), crown -> crown.judge(2), OUTSIDE);
        Check.refused("judge(-1)", () -> Check.withPad("x"), crown -> crown.judge(-1), OUTSIDE);
    }

    /** "the first ACT (from 0 on) that can not be": the first of two; at the first and at the last place. */
    private static void judgeIsTheFirst() {
        judged("C1D1", 0, 2);
        judged("D1C1", 0, 1);
        judged("A1A1C1D1", 2, 2);
        judged(".".repeat(58) + "C1", 58, 2);
        judged("D1" + ".".repeat(58), 0, 1);
        judged(".".repeat(57) + "A>A", 57, 4);
    }

    /** "NONE": all can be, or there is none. */
    private static void judgeOfNone() {
        judged("", NONE, NONE);
        judged(".".repeat(60), NONE, NONE);
        judged("A1".repeat(30), NONE, NONE);
        judged("B>CB>A".repeat(10), NONE, NONE);
    }

    // ---- promise 10: done

    /** "ACTS": none, and as many as the pad holds. */
    private static void doneTellsActs() {
        GlobeCrown crown = Check.three();
        Check.due("done(), none", crown.done(), 0);
        Check.reign(crown, ".".repeat(60), 60);
        Check.reign(crown, "B1".repeat(30), 30);
        Check.reign(crown, "B>CB>A".repeat(10), 20);
    }

    /** "(it is empty then)". */
    private static void doneLeavesThePadEmpty() {
        GlobeCrown crown = Check.withPad("A1.");
        Check.due("done()", crown.done(), 2);
        Check.due("told(0)", crown.told(0), 0);
        Check.due("done() again", crown.done(), 0);
        Check.due("taxes once", crown.told(4), 10);
    }

    /** "NO: there is a FAULT, or an ACT that can not be": the first, or the last; nothing is done then. */
    private static void doneIsRefused() {
        for (String text : new String[] {"x", "A1A", "A1B>", "A1x", "C1", "A1C1", "C1A1", ".".repeat(58) + "D#"}) {
            Check.refused("done() of " + text, () -> Check.withPad(text), GlobeCrown::done, NO);
        }
    }

    // ---- promise 11: behind

    /** "FLYING (what = 0), WATER (1), CLOUDY (2), CONTENT (3)"; "OUTSIDE". */
    private static void behindIs0To3() {
        Check.range("behind(0, ..)", 0, 3, OUTSIDE, (crown, what) -> crown.behind(0, what));
        Check.range("behind(7, ..)", Check::full, 0, 3, OUTSIDE, (crown, what) -> crown.behind(7, what));
    }

    /** "of a GLOBE (that is there now)"; "UNKNOWN". */
    private static void behindOfNoGlobe() {
        Check.range("behind(.., 0)", 0, 2, UNKNOWN, (crown, g) -> crown.behind(g, 0));
        Check.range("behind(.., 3)", Check::full, 0, 7, UNKNOWN, (crown, g) -> crown.behind(g, 3));
    }

    /** "(NONE all: it was dropped)": UNKNOWN, when that is done. */
    private static void behindOfADroppedOne() {
        GlobeCrown crown = Check.withPad("C#A1");
        for (int what = 0; what < 4; what++) {
            Check.due("behind(2, " + what + ")", crown.behind(2, what), NONE);
        }
        Check.due("behind(2, 4)", crown.behind(2, 4), OUTSIDE);
        Check.due("behind(0, 0)", crown.behind(0, 0), 10);
        crown.done();
        Check.due("behind(2, 0)", crown.behind(2, 0), UNKNOWN);
    }

    /** "NO, as of done()". */
    private static void behindIsRefused() {
        for (String text : new String[] {"x", "A1A", "A1B>", "C1", "A1C1", "C#C1"}) {
            for (int what = 0; what < 4; what++) {
                int asked = what;
                Check.refused("behind(0, " + what + ") of " + text, () -> Check.withPad(text),
                        crown -> crown.behind(0, asked), NO);
            }
        }
    }

    /** "the first of these that fits: UNKNOWN, OUTSIDE, NO". */
    private static void behindRefusalsByTheirOrder() {
        Check.refused("behind(3, 4) of A", () -> Check.withPad("A"), crown -> crown.behind(3, 4), UNKNOWN);
        Check.refused("behind(3, 0) of A", () -> Check.withPad("A"), crown -> crown.behind(3, 0), UNKNOWN);
        Check.refused("behind(3, 4)", Check::busy, crown -> crown.behind(3, 4), UNKNOWN);
        Check.refused("behind(0, 4) of A", () -> Check.withPad("A"), crown -> crown.behind(0, 4), OUTSIDE);
        Check.refused("behind(0, -1) of C1", () -> Check.withPad("C1"), crown -> crown.behind(0, -1), OUTSIDE);
    }

    /** "FLYING (what = 0), WATER (1), CLOUDY (2), CONTENT (3)": each is what it is. */
    private static void behindEach() {
        GlobeCrown crown = Check.full();
        crown.globe(7, 50, 70, 3, false);
        crown.mood(7, 2, 7);
        Check.write(crown, "H3H+.");
        int[] due = {23, 96, 3, 8};
        for (int what = 0; what < 4; what++) {
            Check.due("behind(7, " + what + ")", crown.behind(7, what), due[what]);
        }
    }

    /** "BEHIND, likewise, not being DONE": of no act all is as it is now. */
    private static void behindNothing() {
        GlobeCrown crown = Check.full();
        crown.wipe();
        int[] due = {99, 99, 9, 9};
        for (int what = 0; what < 4; what++) {
            Check.due("behind(7, " + what + ")", crown.behind(7, what), due[what]);
        }
    }

    /** "not being DONE". */
    private static void behindChangesNothing() {
        GlobeCrown crown = Check.busy();
        String before = Check.all(crown);
        crown.behind(0, 0);
        crown.then(0);
        Check.unchanged(crown, before, "behind, then");
    }

    // ---- promise 12: then

    /** "snow (what = 0) .. the GLOBE (5; NONE)"; "OUTSIDE". */
    private static void thenIs0To5() {
        Check.range("then(..)", 0, 5, OUTSIDE, GlobeCrown::then);
    }

    /** "NO, likewise". */
    private static void thenIsRefused() {
        for (String text : new String[] {"x", "A1A", "A1B>", "C1", "A1C1"}) {
            for (int what = 0; what < 6; what++) {
                int asked = what;
                Check.refused("then(" + what + ") of " + text, () -> Check.withPad(text),
                        crown -> crown.then(asked), NO);
            }
        }
    }

    /** "the first of these that fits: OUTSIDE, NO". */
    private static void thenOutsideGoesAheadOfNo() {
        Check.refused("then(6) of A", () -> Check.withPad("A"), crown -> crown.then(6), OUTSIDE);
        Check.refused("then(-1) of C1", () -> Check.withPad("C1"), crown -> crown.then(-1), OUTSIDE);
    }

    private static void thenDue(GlobeCrown crown, String text, int what, int due) {
        Check.write(crown, text);
        Check.due("then(" + what + ") of " + text, crown.then(what), due);
    }

    /** "GLOBES in which it snows (some are FLYING: bits)": none, one flake, all; none of those dropped. */
    private static void thenSnow() {
        thenDue(Check.three(), "", 0, 0);
        thenDue(flying(99, 8, false), ".", 0, 1);
        thenDue(flying(99, 7, false), ".", 0, 0);
        thenDue(Check.full(), "A1", 0, 255);
        thenDue(Check.full(), "A#H#", 0, 126);
    }

    /** "which are FREE (bits)": none of those dropped. */
    private static void thenFree() {
        thenDue(Check.three(), "", 1, 4);
        thenDue(Check.three(), "C#", 1, 0);
        thenDue(Check.full(), ".".repeat(10), 1, 0);
        thenDue(Check.full(), ".".repeat(11), 1, 255);
    }

    /** "TAXES, the hour": those of now among them. */
    private static void thenTaxesAndHour() {
        GlobeCrown crown = Check.busy();
        Check.due("taxes of now", crown.told(4), 13);
        thenDue(crown, "", 2, 13);
        thenDue(crown, "", 3, 1);
        thenDue(crown, "B1.", 2, 19);
        thenDue(crown, "B1.", 3, 2);
    }

    private static void freeDue(GlobeCrown crown, String text, int act, int globe) {
        thenDue(crown, text, 4, act);
        thenDue(crown, text, 5, globe);
    }

    /** "the first ACT behind which a GLOBE is FREE that was not": from 0 on. */
    private static void freeFirstAct() {
        freeDue(Check.one(9, 9, 9, false), ".", 0, 0);
        freeDue(Check.one(10, 9, 9, false), ".", NONE, NONE);
        freeDue(Check.one(10, 9, 9, false), "..", 1, 0);
        freeDue(Check.one(60, 9, 1, false), ".".repeat(60), 59, 0);
        freeDue(Check.one(61, 9, 1, false), ".".repeat(60), NONE, NONE);
        freeDue(Check.one(9, 9, 9, false), "A1.A=", 1, 0);
    }

    /** "the least such (NONE)": of two behind one act; of two acts the first, be its globe greater. */
    private static void freeLeastGlobe() {
        GlobeCrown crown = new GlobeCrown();
        crown.globe(7, 5, 9, 5, false);
        crown.globe(3, 5, 9, 5, false);
        freeDue(crown, ".", 0, 3);
        crown.globe(3, 6, 9, 5, false);
        freeDue(crown, "..", 0, 7);
        crown.globe(0, 5, 9, 5, false);
        freeDue(crown, ".", 0, 0);
    }

    /** "that was not": one that is free now, and one that is dropped, are none. */
    private static void freeThatWasNot() {
        freeDue(Check.one(0, 9, 9, false), ".", NONE, NONE);
        freeDue(Check.one(9, 9, 9, false), "A#.", NONE, NONE);
        freeDue(new GlobeCrown(), ".", NONE, NONE);
        freeDue(Check.three(), "", NONE, NONE);
        freeDue(Check.one(0, 9, 9, false), "A=" + ".".repeat(11), 11, 0);
    }

    // ---- promise 13: look

    /** "SEEN (what = 0), DEEP (1)"; "OUTSIDE". */
    private static void lookIs0Or1() {
        Check.range("look(0, ..)", 0, 1, OUTSIDE, (crown, what) -> crown.look(0, what));
    }

    /** "UNKNOWN: it is not there". */
    private static void lookAtNoGlobe() {
        Check.range("look(.., 0)", 0, 2, UNKNOWN, (crown, g) -> crown.look(g, 0));
        Check.range("look(.., 1)", Check::full, 0, 7, UNKNOWN, (crown, g) -> crown.look(g, 1));
    }

    /** "the first of these that fits: UNKNOWN, OUTSIDE". */
    private static void lookUnknownGoesAheadOfOutside() {
        Check.refused("look(3, 2)", Check::busy, crown -> crown.look(3, 2), UNKNOWN);
        Check.refused("look(8, -1)", Check::busy, crown -> crown.look(8, -1), UNKNOWN);
    }

    /** "FLYING less 10 times by how much it is CLOUDY .. 0 at least". */
    private static void lookThroughItsOwnClouds() {
        Check.due("99, cloudy by 0", mood(0, 5, 99, false).look(0, 0), 99);
        Check.due("99, cloudy by 9", mood(9, 5, 99, false).look(0, 0), 9);
        Check.due("31, cloudy by 3", mood(3, 5, 31, false).look(0, 0), 1);
        Check.due("30, cloudy by 3", mood(3, 5, 30, false).look(0, 0), 0);
        Check.due("29, cloudy by 3", mood(3, 5, 29, false).look(0, 0), 0);
        Check.due("0, cloudy by 9", mood(9, 5, 0, false).look(0, 0), 0);
    }

    /** "and so by each GLOBE in which it is, be it in others": not by those in it, nor beside it. */
    private static void lookThroughAllRoundIt() {
        GlobeCrown crown = Check.full();
        for (int g = 0; g < 8; g++) {
            crown.mood(g, 1, 5);
        }
        for (int g = 0; g < 8; g++) {
            Check.due("look(" + g + ", 0)", crown.look(g, 0), 89 - 10 * g);
        }
        crown.mood(0, 3, 5);
        Check.due("look(7, 0), 100 less of 99", crown.look(7, 0), 0);
        Check.due("look(6, 0), 90 less of 99", crown.look(6, 0), 9);
        crown.put(7, -1);
        Check.due("look(7, 0) on the shelf", crown.look(7, 0), 89);
    }

    /** "DEEP: in how many it is, one in another": 0 to 7. */
    private static void lookDeep() {
        GlobeCrown crown = Check.full();
        for (int g = 0; g < 8; g++) {
            Check.due("look(" + g + ", 1)", crown.look(g, 1), g);
        }
        crown.put(7, 0);
        Check.due("look(7, 1)", crown.look(7, 1), 1);
        Check.reign(crown, "A#", 1);
        Check.due("look(6, 1) without the first", crown.look(6, 1), 5);
        Check.due("look(7, 1) without the first", crown.look(7, 1), 0);
    }
}
