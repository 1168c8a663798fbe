/** The edges that the document names for promises 1 to 8; the words behind each test are the document's. */
public final class GlobesEdgesTest {
    private static final int NONE = Check.NONE, UNKNOWN = Check.UNKNOWN, OUTSIDE = Check.OUTSIDE;
    private static final int STATE = Check.STATE, FULL = Check.FULL;

    public static void main(String[] args) throws ReflectiveOperationException {
        Check.every(GlobesEdgesTest.class);
    }

    // ---- promise 1: an empty SHELF

    /** "GLOBES 0 to 7 (A to H), none of which are there at first". */
    private static void newNoGlobeIsThere() {
        GlobeCrown crown = new GlobeCrown();
        Check.due("told(1)", crown.told(1), 0);
        Check.due("told(2)", crown.told(2), 0);
        Check.due("told(3)", crown.told(3), 0);
        for (int g = 0; g < 8; g++) {
            Check.due("fly(" + g + ")", crown.fly(g, 0), UNKNOWN);
            Check.due("mood(" + g + ")", crown.mood(g, 0, 0), UNKNOWN);
            Check.due("put(" + g + ")", crown.put(g, -1), UNKNOWN);
            Check.due("behind(" + g + ")", crown.behind(g, 0), UNKNOWN);
            Check.due("look(" + g + ")", crown.look(g, 0), UNKNOWN);
            for (int i = 0; i < 10; i++) {
                Check.due("told(" + (10 * g + 10 + i) + ")", crown.told(10 * g + 10 + i), OUTSIDE);
            }
        }
    }

    /** "TAXES are 0 at first. It is hour 0 at first." */
    private static void newTaxesAndHourAreNought() {
        Check.due("told(4)", new GlobeCrown().told(4), 0);
        Check.due("told(5)", new GlobeCrown().told(5), 0);
        Check.due("then(2)", new GlobeCrown().then(2), 0);
        Check.due("then(3)", new GlobeCrown().then(3), 0);
    }

    /** "An empty SHELF": of nothing all that is asked for can be told. */
    private static void newNothingIsThereYet() {
        GlobeCrown crown = new GlobeCrown();
        Check.due("told(0)", crown.told(0), 0);
        Check.due("told(6)", crown.told(6), 0);
        Check.due("fault()", crown.fault(), NONE);
        Check.due("judge(0)", crown.judge(0), NONE);
        Check.due("judge(1)", crown.judge(1), NONE);
        Check.due("then(0)", crown.then(0), 0);
        Check.due("then(1)", crown.then(1), 0);
        Check.due("then(4)", crown.then(4), NONE);
        Check.due("then(5)", crown.then(5), NONE);
        Check.due("done()", crown.done(), 0);
        Check.due("wipe()", crown.wipe(), 0);
        Check.due("forget()", crown.forget(), 0);
        Check.due("year(0)", crown.year(9999, 99, 0), 0);
        Check.due("year(1)", crown.year(9999, 99, 1), 0);
        Check.due("year(2)", crown.year(9999, 99, 2), 0);
    }

    /** Two objects have nothing in common. */
    private static void newObjectsAreApart() {
        Check.full();
        GlobeCrown crown = new GlobeCrown();
        Check.due("told(1)", crown.told(1), 0);
        Check.due("restore(0)", crown.restore(0), STATE);
    }

    // ---- promise 2: globe

    /** "GLOBES 0 to 7"; "UNKNOWN". */
    private static void globeIs0To7() {
        Check.range("globe(.., 1, 1, 1)", 0, 7, UNKNOWN, (crown, g) -> crown.globe(g, 1, 1, 1, true));
    }

    /** "WATER (0 to 99)"; of a globe that is not there, and of one that is. */
    private static void globeWaterIs0To99() {
        Check.range("globe(5, ..)", 0, 99, OUTSIDE, (crown, water) -> crown.globe(5, water, 1, 1, true));
        Check.range("globe(0, ..)", 0, 99, OUTSIDE, (crown, water) -> crown.globe(0, water, 1, 1, true));
        Check.due("told(10)", Check.one(0, 1, 1, false).told(10), 0);
        Check.due("told(10)", Check.one(99, 1, 1, false).told(10), 99);
    }

    /** "FLAKES (0 to 99)". */
    private static void globeFlakesAre0To99() {
        Check.range("globe(5, 1, ..)", 0, 99, OUTSIDE, (crown, flakes) -> crown.globe(5, 1, flakes, 1, true));
        Check.range("globe(0, 1, ..)", 0, 99, OUTSIDE, (crown, flakes) -> crown.globe(0, 1, flakes, 1, true));
        Check.due("told(11)", Check.one(1, 0, 1, false).told(11), 0);
        Check.due("told(11)", Check.one(1, 99, 1, false).told(11), 99);
    }

    /** "LEAKS by 0 to 9 an hour". */
    private static void globeLeaksBy0To9() {
        Check.range("globe(5, 1, 1, ..)", 0, 9, OUTSIDE, (crown, leaks) -> crown.globe(5, 1, 1, leaks, true));
        Check.range("globe(0, 1, 1, ..)", 0, 9, OUTSIDE, (crown, leaks) -> crown.globe(0, 1, 1, leaks, true));
        Check.due("told(13)", Check.one(1, 1, 0, false).told(13), 0);
        Check.due("told(13)", Check.one(1, 1, 9, false).told(13), 9);
    }

    /** "the first of these that fits: UNKNOWN, OUTSIDE". */
    private static void globeUnknownGoesAheadOfOutside() {
        Check.refused("globe(8, 100)", Check::busy, crown -> crown.globe(8, 100, 1, 1, true), UNKNOWN);
        Check.refused("globe(8, 1, 100)", Check::busy, crown -> crown.globe(8, 1, 100, 1, true), UNKNOWN);
        Check.refused("globe(-1, 1, 1, 10)", Check::busy, crown -> crown.globe(-1, 1, 1, 10, true), UNKNOWN);
    }

    /** "(0: it is FREE)": 1 is not. */
    private static void globeWithoutWaterIsFree() {
        Check.due("water 0: told(3)", Check.one(0, 9, 9, false).told(3), 1);
        Check.due("water 1: told(3)", Check.one(1, 9, 9, false).told(3), 0);
    }

    /** "FLYING (0 at first)", "CLOUDY (0 at first)", "CONTENT (5 at first)", "on the SHELF (at first)". */
    private static void globeAtFirst() {
        GlobeCrown crown = Check.one(99, 99, 9, true);
        int[] due = {99, 99, 0, 9, 0, 1, 5, NONE};
        for (int i = 0; i < 8; i++) {
            Check.due("told(1" + i + ")", crown.told(10 + i), due[i]);
        }
        Check.due("no music: told(15)", Check.one(99, 99, 9, false).told(15), 0);
    }

    /** "how many are": from the first to the last, and no more by one anew. */
    private static void globeTellsHowManyAre() {
        GlobeCrown crown = new GlobeCrown();
        for (int g = 7; g >= 0; g--) {
            Check.due("globe(" + g + ")", crown.globe(g, 1, 1, 1, false), 8 - g);
        }
        Check.due("globe(0) anew", crown.globe(0, 1, 1, 1, false), 8);
        Check.due("globe(7) anew", crown.globe(7, 1, 1, 1, false), 8);
        Check.due("told(1)", crown.told(1), 255);
    }

    /** "or anew: none FLYING, not CLOUDY, CONTENT by 5; where it stood". */
    private static void globeAnew() {
        GlobeCrown crown = Check.full();
        Check.due("globe(7) anew", crown.globe(7, 0, 0, 0, false), 8);
        int[] due = {0, 0, 0, 0, 0, 0, 5, 6};
        for (int i = 0; i < 8; i++) {
            Check.due("told(8" + i + ")", crown.told(80 + i), due[i]);
        }
        Check.due("globe(3) anew", crown.globe(3, 1, 1, 1, false), 8);
        Check.due("it stands where it stood", crown.told(47), 2);
        Check.due("what is in it stands there", crown.told(57), 3);
        Check.due("globe(0) anew", crown.globe(0, 1, 1, 1, false), 8);
        Check.due("it stands on the shelf", crown.told(17), NONE);
    }

    /** "on the SHELF, if it was not": one that was in another when it was dropped, too. */
    private static void globeThatWasNotIsOnTheShelf() {
        GlobeCrown crown = Check.full();
        Check.reign(crown, "H#", 1);
        Check.due("globe(7)", crown.globe(7, 1, 1, 1, false), 8);
        Check.due("told(87)", crown.told(87), NONE);
        Check.reign(crown, "D#", 1);
        Check.due("globe(3)", crown.globe(3, 1, 1, 1, false), 8);
        Check.due("told(47)", crown.told(47), NONE);
        Check.due("what was in it stays away", crown.told(57), 2);
        Check.due("told(42)", crown.told(42), 0);
        Check.due("told(44)", crown.told(44), 0);
        Check.due("told(46)", crown.told(46), 5);
    }

    // ---- promise 3: fly

    /** "OUTSIDE: 0 to FLAKES": with the most, some, one and none. */
    private static void flyIs0ToFlakes() {
        for (int flakes : new int[] {99, 40, 1, 0}) {
            Check.range("fly(0, ..) with " + flakes + " flakes", () -> Check.one(9, flakes, 1, false), 0, flakes,
                    OUTSIDE, (crown, v) -> crown.fly(0, v));
        }
        Check.range("fly(2, ..) of a free one", 0, 20, OUTSIDE, (crown, v) -> crown.fly(2, v));
    }

    /** "How many are FLYING: how many were." */
    private static void flyTellsHowManyWere() {
        GlobeCrown crown = Check.one(9, 99, 1, false);
        Check.due("fly(0, 99)", crown.fly(0, 99), 0);
        Check.due("told(12)", crown.told(12), 99);
        Check.due("fly(0, 0)", crown.fly(0, 0), 99);
        Check.due("told(12)", crown.told(12), 0);
        Check.due("told(2)", crown.told(2), 0);
        Check.due("fly(0, 1)", crown.fly(0, 1), 0);
        Check.due("one is snow", crown.told(2), 1);
    }

    /** "UNKNOWN: it is not there". */
    private static void flyOfNoGlobe() {
        Check.range("fly(.., 0)", 0, 2, UNKNOWN, (crown, g) -> crown.fly(g, 0));
        Check.range("fly(.., 0), all there", Check::full, 0, 7, UNKNOWN, (crown, g) -> crown.fly(g, 0));
        GlobeCrown crown = Check.three();
        Check.reign(crown, "C#", 1);
        Check.due("fly of a dropped one", crown.fly(2, 0), UNKNOWN);
    }

    /** "the first of these that fits: UNKNOWN, OUTSIDE". */
    private static void flyUnknownGoesAheadOfOutside() {
        Check.refused("fly(3, -1)", Check::busy, crown -> crown.fly(3, -1), UNKNOWN);
        Check.refused("fly(8, 100)", Check::busy, crown -> crown.fly(8, 100), UNKNOWN);
    }

    // ---- promise 4: mood

    /** "CLOUDY by 0 to 9". */
    private static void moodCloudyIs0To9() {
        Check.range("mood(0, .., 5)", 0, 9, OUTSIDE, (crown, cloudy) -> crown.mood(0, cloudy, 5));
    }

    /** "CONTENT by 0 to 9". */
    private static void moodContentIs0To9() {
        Check.range("mood(0, 5, ..)", 0, 9, OUTSIDE, (crown, content) -> crown.mood(0, 5, content));
    }

    /** "10 times the one and the other, as they were": the least and the most. */
    private static void moodTellsAsTheyWere() {
        GlobeCrown crown = Check.one(9, 9, 9, false);
        Check.due("mood(0, 0, 0)", crown.mood(0, 0, 0), 5);
        Check.due("mood(0, 9, 9)", crown.mood(0, 9, 9), 0);
        Check.due("told(14)", crown.told(14), 9);
        Check.due("told(16)", crown.told(16), 9);
        Check.due("mood(0, 9, 0)", crown.mood(0, 9, 0), 99);
        Check.due("mood(0, 0, 9)", crown.mood(0, 0, 9), 90);
        Check.due("mood(0, 0, 0)", crown.mood(0, 0, 0), 9);
        Check.due("told(14)", crown.told(14), 0);
        Check.due("told(16)", crown.told(16), 0);
    }

    /** "UNKNOWN: it is not there". */
    private static void moodOfNoGlobe() {
        Check.range("mood(.., 1, 1)", 0, 2, UNKNOWN, (crown, g) -> crown.mood(g, 1, 1));
        Check.range("mood(.., 1, 1), all there", Check::full, 0, 7, UNKNOWN, (crown, g) -> crown.mood(g, 1, 1));
    }

    /** "the first of these that fits: UNKNOWN, OUTSIDE". */
    private static void moodUnknownGoesAheadOfOutside() {
        Check.refused("mood(3, 10, 0)", Check::busy, crown -> crown.mood(3, 10, 0), UNKNOWN);
        Check.refused("mood(8, 0, -1)", Check::busy, crown -> crown.mood(8, 0, -1), UNKNOWN);
    }

    // ---- promise 5: put

    /** "UNKNOWN: both": the one that is put. */
    private static void putOfNoGlobe() {
        Check.range("put(.., -1)", 0, 2, UNKNOWN, (crown, g) -> crown.put(g, -1));
        Check.range("put(.., -1), all there", Check::full, 0, 7, UNKNOWN, (crown, g) -> crown.put(g, -1));
    }

    /** "UNKNOWN: both", "(-1: on the SHELF)": the one that it is put into. */
    private static void putIntoNoGlobe() {
        for (int in : new int[] {-2, 3, 7, 8, 31, 32, 255, Integer.MIN_VALUE, Integer.MAX_VALUE}) {
            Check.refused("put(1, " + in + ")", Check::busy, crown -> crown.put(1, in), UNKNOWN);
        }
        Check.refused("put(1, -2), all there", Check::full, crown -> crown.put(1, -2), UNKNOWN);
        Check.refused("put(1, 8), all there", Check::full, crown -> crown.put(1, 8), UNKNOWN);
        Check.due("put(1, -1)", Check.busy().put(1, -1), 0);
        Check.due("put(2, 0)", Check.busy().put(2, 0), NONE);
        Check.due("put(6, -1)", Check.full().put(6, -1), 5);
    }

    /** "the first of these that fits: UNKNOWN, STATE". */
    private static void putUnknownGoesAheadOfState() {
        Check.refused("put(3, 3)", Check::busy, crown -> crown.put(3, 3), UNKNOWN);
        Check.refused("put(8, 8)", Check::busy, crown -> crown.put(8, 8), UNKNOWN);
    }

    /** "STATE: it would be in itself"; "never in one that is in it, be it in others". */
    private static void putIntoItself() {
        Check.refused("put(0, 0)", Check::busy, crown -> crown.put(0, 0), STATE);
        Check.refused("put(0, 1)", Check::busy, crown -> crown.put(0, 1), STATE);
        Check.refused("put(2, 2)", Check::busy, crown -> crown.put(2, 2), STATE);
        for (int in = 0; in < 8; in++) {
            int deep = in;
            Check.refused("put(0, " + in + ")", Check::full, crown -> crown.put(0, deep), STATE);
        }
        Check.refused("put(6, 7)", Check::full, crown -> crown.put(6, 7), STATE);
        Check.refused("put(7, 7)", Check::full, crown -> crown.put(7, 7), STATE);
    }

    /** "in which it did (NONE)". */
    private static void putTellsInWhichItWas() {
        GlobeCrown crown = Check.three();
        Check.due("put(2, 1)", crown.put(2, 1), NONE);
        Check.due("put(2, 0)", crown.put(2, 0), 1);
        Check.due("put(2, -1)", crown.put(2, -1), 0);
        Check.due("put(2, -1)", crown.put(2, -1), NONE);
        Check.due("told(37)", crown.told(37), NONE);
    }

    /** No refusal is told for where it stands already: it stays there. */
    private static void putWhereItStands() {
        GlobeCrown crown = Check.full();
        Check.due("put(7, 6)", crown.put(7, 6), 6);
        Check.due("put(0, -1)", crown.put(0, -1), NONE);
        Check.due("told(87)", crown.told(87), 6);
        Check.due("told(17)", crown.told(17), NONE);
    }

    /** The deepest comes out of seven, and the first goes into it. */
    private static void putTheFirstIntoTheLast() {
        GlobeCrown crown = Check.full();
        Check.due("put(7, -1)", crown.put(7, -1), 6);
        Check.due("put(0, 7)", crown.put(0, 7), NONE);
        Check.due("look(6, 1)", crown.look(6, 1), 7);
        Check.due("put(7, 6)", crown.put(7, 6), STATE);
        Check.due("put(3, 7)", crown.put(3, 7), 2);
        Check.due("what is in it goes with it", crown.look(6, 1), 4);
    }

    // ---- promise 6: say

    /** "codes 33 to 126"; "OUTSIDE". */
    private static void sayIs33To126() {
        Check.range("say(..)", 33, 126, OUTSIDE, GlobeCrown::say);
        Check.range("say(..) on an empty pad", Check::three, 33, 126, OUTSIDE, GlobeCrown::say);
        Check.refused("say(0)", Check::busy, crown -> crown.say(0), OUTSIDE);
        Check.refused("say('A' + 256)", Check::busy, crown -> crown.say('A' + 256), OUTSIDE);
        Check.refused("say('A' + 65536)", Check::busy, crown -> crown.say('A' + 65536), OUTSIDE);
    }

    /** "60 SIGNS at most"; "FULL". */
    private static void sayUpTo60() {
        GlobeCrown crown = new GlobeCrown();
        for (int i = 1; i <= 60; i++) {
            Check.due("say, " + i, crown.say('.'), i);
        }
        Check.due("say, 61", crown.say('.'), FULL);
        Check.due("told(0)", crown.told(0), 60);
        Check.due("done()", crown.done(), 60);
        Check.refused("say('A')", Check::full, full -> full.say('A'), FULL);
        Check.refused("say('.')", Check::full, full -> full.say('.'), FULL);
    }

    /** "the first of these that fits: OUTSIDE, FULL". */
    private static void sayOutsideGoesAheadOfFull() {
        Check.refused("say(32)", Check::full, crown -> crown.say(32), OUTSIDE);
        Check.refused("say(127)", Check::full, crown -> crown.say(127), OUTSIDE);
    }

    /** A pad that was full takes signs again, when they went. */
    private static void sayOnAPadThatWasFull() {
        GlobeCrown crown = Check.full();
        Check.due("wipe()", crown.wipe(), 60);
        Check.due("say('A')", crown.say('A'), 1);
        GlobeCrown done = Check.full();
        Check.due("done()", done.done(), 60);
        Check.due("say('A')", done.say('A'), 1);
    }

    // ---- promise 7: wipe

    /** "Signs go: how many there were": none, one, all. */
    private static void wipeTellsHowManyThereWere() {
        GlobeCrown crown = Check.three();
        Check.due("wipe(), none", crown.wipe(), 0);
        crown.say('A');
        Check.due("wipe(), one", crown.wipe(), 1);
        Check.due("wipe(), none", crown.wipe(), 0);
        Check.due("told(0)", crown.told(0), 0);
        Check.due("no fault is left", crown.fault(), NONE);
        Check.due("wipe(), all", Check.full().wipe(), 60);
    }

    /** Signs go, and nothing else. */
    private static void wipeLeavesAllElse() {
        GlobeCrown crown = Check.busy();
        crown.wipe();
        String before = Check.all(crown);
        Check.write(crown, "A#");
        crown.wipe();
        Check.unchanged(crown, before, "wipe");
    }

    // ---- promise 8: fault

    private static void faultDue(String text, int place) {
        Check.due("fault() of " + text, Check.withPad(text).fault(), place);
    }

    /** "THE FAULT; NONE": of no sign there is none. */
    private static void faultOfNothing() {
        faultDue("", NONE);
    }

    /** "the first sign that can not stand there": at the first place, and at the last of 60. */
    private static void faultAtTheFirstAndTheLastPlace() {
        faultDue("x", 0);
        faultDue("x" + ".".repeat(59), 0);
        faultDue(".".repeat(59) + "x", 59);
        faultDue("A1".repeat(29) + "A0", 59);
        faultDue("A>B".repeat(19) + "A>0", 59);
        faultDue(".".repeat(60), NONE);
        faultDue("A1".repeat(30), NONE);
        faultDue("A>B".repeat(20), NONE);
    }

    /** "the first": of two. */
    private static void faultIsTheFirst() {
        faultDue("xx", 0);
        faultDue(".x.x", 1);
        faultDue("A1xA", 2);
    }

    /** "the number of signs, if more must come": of few, and of 60. */
    private static void faultIfMoreMustCome() {
        faultDue("A", 1);
        faultDue("A>", 2);
        faultDue(".H", 2);
        faultDue("A1H>", 4);
        faultDue(".".repeat(59) + "A", 60);
        faultDue(".".repeat(58) + "A>", 60);
    }

    /** "a GLOBE's letter" (A to H): the signs next to these are none; nor are small ones. */
    private static void faultOfLetters() {
        faultDue("A1", NONE);
        faultDue("H1", NONE);
        faultDue("@1", 0);
        faultDue("I1", 0);
        faultDue("a1", 0);
        faultDue("h1", 0);
        faultDue("A>A", NONE);
        faultDue("A>H", NONE);
        faultDue("A>@", 2);
        faultDue("A>I", 2);
        faultDue("A>a", 2);
    }

    /** "a digit 1 to 9": the signs next to these are none. */
    private static void faultOfDigits() {
        faultDue("A1", NONE);
        faultDue("A9", NONE);
        faultDue("A0", 1);
        faultDue("A:", 1);
        faultDue("A11", 2);
    }

    /** Of +, =, /, >, ^, # and . just these, and each at its place. */
    private static void faultOfOtherSigns() {
        for (int sign = 33; sign < 127; sign++) {
            char c = (char) sign;
            boolean isLetter = c >= 'A' && c <= 'H';
            boolean isDeed = "123456789+=/^#".indexOf(c) >= 0;
            faultDue("" + c, c == '.' ? NONE : isLetter ? 1 : 0);
            faultDue("A" + c, isDeed ? NONE : c == '>' ? 2 : 1);
            faultDue("A>" + c, isLetter ? NONE : 2);
            faultDue("." + c, c == '.' ? NONE : isLetter ? 2 : 1);
            faultDue("H#" + c, c == '.' ? NONE : isLetter ? 3 : 2);
            faultDue("B>C" + c, c == '.' ? NONE : isLetter ? 4 : 3);
        }
    }

    /** A fault is one of the text alone: that there is no such globe is none. */
    private static void faultIsOfTheTextAlone() {
        Check.due("of H#", Check.withPad("H#").fault(), NONE);
        Check.due("of A>A", Check.withPad("A>A").fault(), NONE);
        Check.due("of C1", Check.withPad("C1").fault(), NONE);
    }
}
