/** The edges that the document names for promises 23 to 25; the words behind each test are the document's. */
public final class ChanceEdgesTest {
    private static final int NONE = Check.NONE, OUTSIDE = Check.OUTSIDE;
    private static final long REFUSED = Check.REFUSED;

    public static void main(String[] args) throws ReflectiveOperationException {
        Check.every(ChanceEdgesTest.class);
    }

    private static GlobeCrown shelf(int... globes) {
        GlobeCrown crown = new GlobeCrown();
        for (int g : globes) {
            crown.globe(g, 1, 1, 1, false);
        }
        return crown;
    }

    // ---- promise 23: thumb

    /** "whether (what = 0), which (1; NONE). OUTSIDE." */
    private static void thumbIs0Or1() {
        Check.range("thumb(..)", 0, 1, OUTSIDE, GlobeCrown::thumb);
        Check.range("thumb(..) of nothing", GlobeCrown::new, 0, 1, OUTSIDE, GlobeCrown::thumb);
    }

    private static void thumbDue(GlobeCrown crown, int whether, int which) {
        Check.due("thumb(0)", crown.thumb(0), whether);
        Check.due("thumb(1)", crown.thumb(1), which);
    }

    /** "who can not has lost": there is nothing to take. */
    private static void thumbOfNothing() {
        thumbDue(new GlobeCrown(), 0, NONE);
        GlobeCrown crown = shelf(3);
        Check.reign(crown, "D#", 1);
        thumbDue(crown, 0, NONE);
    }

    /** One globe: the first and the last. */
    private static void thumbOfOne() {
        thumbDue(shelf(0), 1, 0);
        thumbDue(shelf(7), 1, 7);
    }

    /** All eight side by side, and seven of them. */
    private static void thumbOfAllSideBySide() {
        thumbDue(shelf(0, 1, 2, 3, 4, 5, 6, 7), 0, NONE);
        thumbDue(shelf(1, 2, 3, 4, 5, 6, 7), 1, 1);
    }

    /** All eight in one another: whoever begins takes all. */
    private static void thumbOfAllInOneAnother() {
        thumbDue(Check.full(), 1, 0);
        GlobeCrown crown = shelf(0, 1, 2, 3, 4, 5, 6, 7);
        for (int g = 0; g < 7; g++) {
            crown.put(g, g + 1);
        }
        thumbDue(crown, 1, 7);
    }

    /** "the least" of those that win. */
    private static void thumbTheLeast() {
        thumbDue(shelf(2, 5, 7), 1, 2);
        thumbDue(shelf(7, 6, 5), 1, 5);
    }

    /** "with all that is in it": B goes with A; free ones are taken like others. */
    private static void thumbWithAllThatIsInIt() {
        thumbDue(Check.three(), 1, 1);
        GlobeCrown crown = shelf(0, 1);
        crown.put(0, 1);
        thumbDue(crown, 1, 1);
    }

    // ---- promise 24: count

    /** "of n flakes (0 to 17)". */
    private static void countFlakesAre0To17() {
        Check.range("count(.., 5, 1, 0, 0)", 0, 17, REFUSED, (crown, n) -> crown.count(n, 5, 1, 0, 0));
        Check.range("count(.., 5, 1, 0, 1)", 0, 17, REFUSED, (crown, n) -> crown.count(n, 5, 1, 0, 1));
    }

    /** "(n 0 to 8 for it)". */
    private static void countFlakesAre0To8ForBoth() {
        Check.range("count(.., 5, 1, 1, 0)", 0, 8, REFUSED, (crown, n) -> crown.count(n, 5, 1, 1, 0));
        Check.range("count(.., 5, 1, 1, 1)", 0, 8, REFUSED, (crown, n) -> crown.count(n, 5, 1, 1, 1));
        Check.due("count(17, .., 1)", new GlobeCrown().count(17, 5, 1, 1, 0), REFUSED);
    }

    /** "with t tenths (0 to 10)". */
    private static void countTenthsAre0To10() {
        Check.range("count(3, .., 1, 0, 0)", 0, 10, REFUSED, (crown, t) -> crown.count(3, t, 1, 0, 0));
        Check.range("count(3, .., 1, 1, 0)", 0, 10, REFUSED, (crown, t) -> crown.count(3, t, 1, 1, 0));
    }

    /** "that k (0 to 17) at least are"; "k is no matter, but as told". */
    private static void countAtLeast0To17() {
        Check.range("count(3, 5, .., 0, 0)", 0, 17, REFUSED, (crown, k) -> crown.count(3, 5, k, 0, 0));
        Check.range("count(3, 5, .., 1, 0)", 0, 17, REFUSED, (crown, k) -> crown.count(3, 5, k, 1, 0));
        for (int k = 0; k <= 17; k++) {
            Check.due("count(3, 5, " + k + ", 1, 1)", new GlobeCrown().count(3, 5, k, 1, 1), 64);
        }
    }

    /** "k at least (what = 0), both all (1 ..)". */
    private static void countWhatIs0Or1() {
        Check.range("count(3, 5, 1, .., 0)", 0, 1, REFUSED, (crown, what) -> crown.count(3, 5, 1, what, 0));
    }

    /** "by part: 0 the upper, 1 the lower number; refused with LOST and the refusal". */
    private static void countPartIs0Or1() {
        Check.range("count(3, 5, 1, 0, ..)", 0, 1, REFUSED, (crown, part) -> crown.count(3, 5, 1, 0, part));
        Check.range("count(3, 5, 1, 1, ..)", 0, 1, REFUSED, (crown, part) -> crown.count(3, 5, 1, 1, part));
        Check.due("LOST and OUTSIDE", REFUSED, GlobeCrown.LOST + GlobeCrown.OUTSIDE);
    }

    private static void countDue(int n, int t, int k, int what, long upper, long lower) {
        GlobeCrown crown = new GlobeCrown();
        String call = "count(" + n + ", " + t + ", " + k + ", " + what + ", ";
        Check.due(call + "0)", crown.count(n, t, k, what, 0), upper);
        Check.due(call + "1)", crown.count(n, t, k, what, 1), lower);
    }

    /** Of no flake none is counted for sure, and one never; both count all of them. */
    private static void countOfNoFlake() {
        for (int t = 0; t <= 10; t += 5) {
            countDue(0, t, 0, 0, 1, 1);
            countDue(0, t, 1, 0, 0, 1);
            countDue(0, t, 17, 0, 0, 1);
            countDue(0, t, 0, 1, 1, 1);
        }
    }

    /** 0 at least is sure; more than there are is never. */
    private static void countOfNoneAndOfTooMany() {
        countDue(17, 3, 0, 0, 1, 1);
        countDue(16, 3, 17, 0, 0, 1);
        countDue(3, 5, 3, 0, 1, 8);
        countDue(3, 5, 4, 0, 0, 1);
    }

    /** By 0 tenths never, by 10 always. */
    private static void countBy0And10Tenths() {
        countDue(17, 0, 0, 0, 1, 1);
        countDue(17, 0, 1, 0, 0, 1);
        countDue(17, 10, 17, 0, 1, 1);
        countDue(8, 0, 0, 1, 0, 1);
        countDue(8, 10, 0, 1, 1, 1);
    }

    /** "in lowest terms"; "exactly": the longest numbers. */
    private static void countExactly() {
        countDue(17, 1, 17, 0, 1, 100000000000000000L);
        countDue(17, 9, 17, 0, 16677181699666569L, 100000000000000000L);
        countDue(17, 9, 1, 0, 99999999999999999L, 100000000000000000L);
        countDue(17, 5, 17, 0, 1, 131072);
        countDue(17, 5, 9, 0, 1, 2);
        countDue(17, 2, 17, 0, 1, 762939453125L);
        countDue(8, 1, 0, 1, 1, 10000000000000000L);
        countDue(8, 9, 0, 1, 1853020188851841L, 10000000000000000L);
        countDue(8, 5, 0, 1, 1, 65536);
        countDue(1, 4, 1, 0, 2, 5);
    }

    // ---- promise 25: year

    /** "a seed (0 to 9999)". */
    private static void yearSeedIs0To9999() {
        Check.range("year(.., 5, 0)", 0, 9999, OUTSIDE, (crown, seed) -> crown.year(seed, 5, 0));
    }

    /** "of m ACTS (1 to 99)". */
    private static void yearActsAre1To99() {
        Check.range("year(5, .., 0)", 1, 99, OUTSIDE, (crown, m) -> crown.year(5, m, 0));
    }

    /** "TAXES (what = 0), snow (1), FREE ones (2). OUTSIDE." */
    private static void yearWhatIs0To2() {
        Check.range("year(5, 5, ..)", 0, 2, OUTSIDE, (crown, what) -> crown.year(5, 5, what));
    }

    /** "Nothing is DONE in fact." */
    private static void yearIsNotDone() {
        for (int seed = 0; seed < 10000; seed += 1111) {
            GlobeCrown crown = Check.full();
            String before = Check.all(crown);
            crown.year(seed, 99, 0);
            Check.unchanged(crown, before, "year(" + seed + ", 99, 0)");
        }
        GlobeCrown crown = Check.withPad("A1.");
        crown.year(77, 99, 0);
        Check.due("what is on the pad is done", crown.done(), 2);
        Check.due("flying", crown.told(12), 3);
    }

    private static int drawn(int seed) {
        return (75 * seed + 74) % 65537;
    }

    /** The text of the act that is drawn. */
    private static String act(int x) {
        char globe = (char) ('A' + x % 8);
        int z = x / 64;
        switch (x / 8 % 8) {
            case 0:
            case 1:
                return "" + globe + (1 + z % 9);
            case 5:
                return globe + ">" + (char) ('A' + z % 8);
            case 7:
                return ".";
            default:
                return "" + globe + "..+=/.^".charAt(x / 8 % 8);
        }
    }

    private static void yearDue(GlobeCrown crown, int seed, int m, int taxes, int snow, int free) {
        Check.due("year(" + seed + ", " + m + ", 0)", crown.year(seed, m, 0), taxes);
        Check.due("year(" + seed + ", " + m + ", 1)", crown.year(seed, m, 1), snow);
        Check.due("year(" + seed + ", " + m + ", 2)", crown.year(seed, m, 2), free);
    }

    /** Five globes, some free, some full, some clouded, some in others. */
    private static GlobeCrown mixed() {
        GlobeCrown crown = Check.three();
        crown.globe(4, 2, 9, 2, false);
        crown.globe(7, 9, 0, 9, true);
        crown.fly(0, 7);
        crown.mood(7, 9, 9);
        crown.put(4, 2);
        return crown;
    }

    /** One act by every seed: as that act on the pad; "each if that can be", else nothing. */
    private static void yearOfOneAct() {
        for (int seed = 0; seed < 10000; seed++) {
            GlobeCrown crown = mixed();
            Check.write(crown, act(drawn(seed)));
            crown.done();
            yearDue(mixed(), seed, 1, crown.told(4), Integer.bitCount(crown.told(2)), Integer.bitCount(crown.told(3)));
        }
    }

    /** "by 1 and z left over by 9": how hard is seen behind the hours that are drawn later. */
    private static void yearByItsHardness() {
        for (int seed = 0; seed < 10000; seed += 7) {
            GlobeCrown year = shelf(0, 1, 2, 3, 4, 5, 6, 7);
            GlobeCrown pad = new GlobeCrown();
            for (int g = 0; g < 8; g++) {
                year.globe(g, 99, 99, 0, false);
                pad.globe(g, 99, 99, 0, false);
            }
            int x = seed;
            for (int m = 1; m <= 24; m++) {
                x = drawn(x);
                Check.write(pad, act(x));
                pad.done();
                Check.due("year(" + seed + ", " + m + ", 1)", year.year(seed, m, 1), Integer.bitCount(pad.told(2)));
            }
        }
    }

    /** "from all as it is": TAXES, snow and FREE ones of now among them; without globes nothing is. */
    private static void yearFromAllAsItIs() {
        yearDue(new GlobeCrown(), 0, 1, 0, 0, 0);
        yearDue(new GlobeCrown(), 9999, 99, 0, 0, 0);
        // By seed 0 the first draw is 74: C is shaken, which is free there.
        yearDue(Check.busy(), 0, 1, 13, 2, 1);
    }
}
