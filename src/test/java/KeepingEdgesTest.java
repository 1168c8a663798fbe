/** The edges that the document names for promises 26 to 28; the words behind each test are the document's. */
public final class KeepingEdgesTest {
    private static final int NONE = Check.NONE, OUTSIDE = Check.OUTSIDE, STATE = Check.STATE;

    public static void main(String[] args) throws ReflectiveOperationException {
        Check.every(KeepingEdgesTest.class);
    }

    // ---- promise 26: image

    /** "an IMAGE (0, 1): 1. OUTSIDE." */
    private static void imageIs0Or1() {
        Check.range("image(..)", 0, 1, OUTSIDE, GlobeCrown::image);
        Check.due("image(0)", Check.busy().image(0), 1);
        Check.due("image(1)", Check.busy().image(1), 1);
    }

    /** "All .. is kept": when there is nothing, too. */
    private static void imageOfNothing() {
        GlobeCrown crown = new GlobeCrown();
        String before = Check.all(crown);
        Check.due("image(0)", crown.image(0), 1);
        crown.globe(0, 9, 9, 9, true);
        crown.rank(0, 543210);
        crown.seen(1, 1);
        Check.reign(crown, "A1.", 2);
        Check.due("restore(0)", crown.restore(0), 1);
        Check.unchanged(crown, before, "restore of nothing");
    }

    /** "All .. is kept": when all is full, too. */
    private static void imageOfAll() {
        GlobeCrown crown = Check.full();
        String before = Check.all(crown);
        Check.due("image(1)", crown.image(1), 1);
        Check.write(crown, "A#B#C#D#E#F#G#H#.");
        crown.done();
        crown.forget();
        Check.due("restore(1)", crown.restore(1), 1);
        Check.write(crown, ".".repeat(60));
        Check.unchanged(crown, before, "restore of all");
        Check.due("who(-1)", crown.who(-1), 189);
    }

    /** "All but the PAD": the pad is not in it, and stays. */
    private static void imageIsWithoutThePad() {
        GlobeCrown crown = Check.withPad("A1B");
        crown.image(0);
        crown.wipe();
        crown.restore(0);
        Check.due("an empty pad stays empty", crown.told(0), 0);
        Check.write(crown, ".".repeat(60));
        crown.restore(0);
        Check.due("a full pad stays full", crown.told(0), 60);
        Check.due("its signs stay", crown.done(), 60);
    }

    /** An image is kept anew; the other one is not touched by it. */
    private static void imageAnew() {
        GlobeCrown crown = Check.one(1, 1, 1, false);
        crown.image(0);
        crown.globe(0, 2, 2, 2, false);
        crown.image(1);
        crown.globe(0, 3, 3, 3, false);
        crown.image(0);
        crown.globe(0, 4, 4, 4, false);
        crown.restore(1);
        Check.due("image 1: water", crown.told(10), 2);
        crown.restore(0);
        Check.due("image 0: water", crown.told(10), 3);
    }

    // ---- promise 27: restore

    /** "OUTSIDE": kept or not. */
    private static void restoreIs0Or1() {
        Check.range("restore(..)", Check::full, 0, 1, OUTSIDE, GlobeCrown::restore);
        Check.refused("restore(-1) of nothing", GlobeCrown::new, crown -> crown.restore(-1), OUTSIDE);
        Check.refused("restore(2) of nothing", GlobeCrown::new, crown -> crown.restore(2), OUTSIDE);
    }

    /** "STATE: it was not": each by itself. */
    private static void restoreOfWhatWasNotKept() {
        Check.refused("restore(0)", GlobeCrown::new, crown -> crown.restore(0), STATE);
        Check.refused("restore(1)", GlobeCrown::new, crown -> crown.restore(1), STATE);
        Check.refused("restore(1), 0 kept", Check::busy, crown -> crown.restore(1), STATE);
        GlobeCrown crown = Check.three();
        crown.image(1);
        Check.due("restore(0), 1 kept", crown.restore(0), STATE);
        Check.due("restore(1)", crown.restore(1), 1);
    }

    /** "It is as it was when it was kept": again and again, whatever came in between. */
    private static void restoreAgain() {
        GlobeCrown crown = Check.busy();
        crown.wipe();
        crown.image(1);
        String kept = Check.all(crown);
        for (int time = 0; time < 3; time++) {
            Check.reign(crown, "A9.C+B^A#", 5);
            crown.rank(5, 543210);
            crown.seen(60, 0);
            crown.globe(7, 1, 1, 1, true);
            Check.due("restore(1)", crown.restore(1), 1);
            Check.unchanged(crown, kept, "restore(1)");
        }
    }

    /** The sights themselves are kept, hours and numbers, though as many others came. */
    private static void restoreSights() {
        GlobeCrown crown = new GlobeCrown();
        crown.seen(20, 6);
        crown.seen(17, 0);
        crown.image(0);
        crown.forget();
        crown.seen(21, 6);
        crown.seen(17, 0);
        crown.image(1);
        crown.forget();
        crown.seen(20, 10);
        crown.seen(60, 0);
        Check.due("now: who(-1)", crown.who(-1), 2);
        Check.due("now: who(0)", crown.who(0), 120);
        crown.restore(0);
        Check.due("image 0: who(-1)", crown.who(-1), 1);
        Check.due("image 0: who(0)", crown.who(0), 218);
        crown.restore(1);
        Check.due("image 1: who(0)", crown.who(0), 219);
    }

    /** Each thing that is kept, by itself. */
    private static void restoreEach() {
        String[] names = {"globe", "fly", "mood", "put", "rank", "seen", "forget", "taxes", "hour", "drop"};
        for (int i = 0; i < names.length; i++) {
            GlobeCrown crown = Check.busy();
            crown.wipe();
            crown.image(1);
            String kept = Check.all(crown);
            change(crown, i);
            Check.due(names[i] + " changes something", Check.all(crown).equals(kept) ? 1 : 0, 0);
            crown.restore(1);
            Check.unchanged(crown, kept, "restore behind " + names[i]);
        }
    }

    private static void change(GlobeCrown crown, int kind) {
        switch (kind) {
            case 0 -> crown.globe(7, 1, 1, 1, true);
            case 1 -> crown.fly(0, 40);
            case 2 -> crown.mood(0, 9, 1);
            case 3 -> crown.put(2, 1);
            case 4 -> crown.rank(5, 543210);
            case 5 -> crown.seen(60, 0);
            case 6 -> crown.forget();
            case 7 -> Check.reign(crown, "B1", 1);
            case 8 -> Check.reign(crown, ".", 1);
            default -> Check.reign(crown, "C#", 1);
        }
    }

    // ---- promise 28: told

    private static boolean isTold(int what, int globes) {
        boolean isOfGlobe = what >= 10 && what < 90 && (globes >> what / 10 - 1 & 1) == 1 && what % 10 < 8;
        return what >= 0 && what <= 6 || isOfGlobe || what >= 100 && what <= 105;
    }

    private static void toldJust(GlobeCrown crown, int globes) {
        for (int what = -120; what < 1200; what++) {
            int answer = crown.told(what);
            if (!isTold(what, globes)) {
                Check.due("told(" + what + ")", answer, OUTSIDE);
            } else {
                Check.due("told(" + what + ") is refused", answer == OUTSIDE ? 1 : 0, 0);
            }
        }
    }

    /** "OUTSIDE": all but 0 to 6, 0 to 7 of each GLOBE that is there, 100 to 105. */
    private static void toldNothingElse() {
        toldJust(new GlobeCrown(), 0);
        toldJust(Check.three(), 7);
        toldJust(Check.full(), 255);
        for (int what : new int[] {Integer.MIN_VALUE, Integer.MAX_VALUE, 256, 65536, 65536 + 10}) {
            Check.refused("told(" + what + ")", Check::full, crown -> crown.told(what), OUTSIDE);
        }
    }

    /** "a GLOBE that is there": one that was dropped is not. */
    private static void toldOfADroppedOne() {
        GlobeCrown crown = Check.full();
        Check.reign(crown, "H#", 1);
        toldJust(crown, 127);
    }

    /** "0 signs, 1 GLOBES (bits), 2 snow (bits), 3 FREE ones (bits), 4 TAXES, 5 the hour, 6 SIGHTS": nothing, all. */
    private static void toldOfAll() {
        GlobeCrown crown = new GlobeCrown();
        int[] nothing = {0, 0, 0, 0, 0, 0, 0};
        GlobeCrown full = Check.full();
        int[] all = {60, 255, 255, 0, 0, 0, 8};
        for (int what = 0; what < 7; what++) {
            Check.due("of nothing: told(" + what + ")", crown.told(what), nothing[what]);
            Check.due("of all: told(" + what + ")", full.told(what), all[what]);
        }
        Check.reign(full, "A1" + ".".repeat(11), 12);
        int[] later = {0, 255, 255, 255, 72, 11, 8};
        for (int what = 0; what < 7; what++) {
            Check.due("later: told(" + what + ")", full.told(what), later[what]);
        }
    }

    /** "0 WATER, .. 7 in which it is (NONE)": of the first and of the last GLOBE. */
    private static void toldOfAGlobe() {
        GlobeCrown crown = Check.full();
        crown.globe(7, 96, 95, 4, false);
        crown.fly(7, 93);
        crown.mood(7, 2, 1);
        int[] first = {99, 99, 99, 9, 9, 1, 9, NONE};
        int[] last = {96, 95, 93, 4, 2, 0, 1, 6};
        for (int i = 0; i < 8; i++) {
            Check.due("told(1" + i + ")", crown.told(10 + i), first[i]);
            Check.due("told(8" + i + ")", crown.told(80 + i), last[i]);
        }
    }

    /** "100 and one: RANKS". */
    private static void toldOfRanks() {
        GlobeCrown crown = new GlobeCrown();
        int[] rows = {12354, 102345, 201345, 345012, 543201, 543210};
        for (int one = 0; one < 6; one++) {
            crown.rank(one, rows[one]);
        }
        for (int one = 0; one < 6; one++) {
            Check.due("told(10" + one + ")", crown.told(100 + one), rows[one]);
        }
    }
}
