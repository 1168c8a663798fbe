/** The edges that the document names for promises 14 to 18; the words behind each test are the document's. */
public final class CounselEdgesTest {
    private static final int NONE = Check.NONE, UNKNOWN = Check.UNKNOWN, OUTSIDE = Check.OUTSIDE;

    public static void main(String[] args) throws ReflectiveOperationException {
        Check.every(CounselEdgesTest.class);
    }

    private static GlobeCrown eight(int water, int leaks) {
        GlobeCrown crown = new GlobeCrown();
        for (int g = 0; g < 8; g++) {
            crown.globe(g, water, 9, leaks, false);
        }
        return crown;
    }

    // ---- promise 14: just

    /** "OUTSIDE: the set 0 to 255, what". */
    private static void justSetIs0To255() {
        Check.range("just(.., 0)", 0, 255, OUTSIDE, (crown, set) -> crown.just(set, 0));
        Check.range("just(.., 1)", Check::full, 0, 255, OUTSIDE, (crown, set) -> crown.just(set, 1));
    }

    /** "how many (what = 0), which (1)". */
    private static void justWhatIs0Or1() {
        Check.range("just(0, ..)", 0, 1, OUTSIDE, (crown, what) -> crown.just(0, what));
        Check.range("just(255, ..)", Check::full, 0, 1, OUTSIDE, (crown, what) -> crown.just(255, what));
    }

    private static void justDue(GlobeCrown crown, int set, int many, int which) {
        Check.due("just(" + set + ", 0)", crown.just(set, 0), many);
        Check.due("just(" + set + ", 1)", crown.just(set, 1), which);
    }

    /** Of no globe none is to be shaken, whatever is there. */
    private static void justNone() {
        justDue(new GlobeCrown(), 0, 0, 0);
        justDue(Check.three(), 0, 0, 0);
        justDue(eight(1, 1), 0, 0, 0);
        justDue(eight(0, 1), 0, 0, 0);
    }

    /** "the fewest": all eight, side by side and in one another. */
    private static void justAll() {
        justDue(eight(1, 1), 255, 8, 255);
        justDue(Check.full(), 255, 1, 1);
    }

    /** "(a GLOBE of the set is not there .. too)". */
    private static void justOneThatIsNotThere() {
        justDue(new GlobeCrown(), 1, NONE, NONE);
        justDue(new GlobeCrown(), 255, NONE, NONE);
        for (int g = 3; g < 8; g++) {
            justDue(Check.three(), 1 << g, NONE, NONE);
            justDue(Check.three(), 3 | 1 << g, NONE, NONE);
        }
        justDue(Check.three(), 3, 1, 1);
    }

    /** "(a GLOBE of the set is .. FREE, too)". */
    private static void justOneThatIsFree() {
        justDue(Check.three(), 4, NONE, NONE);
        justDue(Check.three(), 7, NONE, NONE);
        GlobeCrown crown = Check.three();
        crown.globe(2, 1, 20, 5, false);
        justDue(crown, 4, 1, 4);
        justDue(crown, 7, 2, 5);
    }

    /** "(with all that is in them)": not without what is in it; the inner one alone can be. */
    private static void justWithAllThatIsInThem() {
        justDue(Check.three(), 1, NONE, NONE);
        justDue(Check.three(), 2, 1, 2);
        for (int g = 0; g < 8; g++) {
            justDue(Check.full(), 255 & -(1 << g), 1, 1 << g);
        }
        justDue(Check.full(), 127, NONE, NONE);
        justDue(Check.full(), 129, NONE, NONE);
        justDue(Check.full(), 254 & ~16, NONE, NONE);
    }

    /** "of those that are there and not FREE just those": a free one that is in them is no matter. */
    private static void justAFreeOneInside() {
        GlobeCrown crown = Check.three();
        crown.put(2, 0);
        justDue(crown, 3, 1, 1);
        crown.put(1, 2);
        justDue(crown, 3, 1, 1);
        justDue(crown, 1, NONE, NONE);
        justDue(crown, 2, 1, 2);
    }

    /** A free one can not be shaken (reason 2): what is in it is shaken one by one. */
    private static void justInAFreeOne() {
        GlobeCrown crown = Check.three();
        crown.globe(3, 1, 1, 1, false);
        crown.put(1, 2);
        crown.put(3, 2);
        justDue(crown, 10, 2, 10);
        justDue(crown, 8, 1, 8);
        justDue(crown, 11, 3, 11);
    }

    /** "(As things are now.)": the pad is no matter. */
    private static void justIsOfNow() {
        GlobeCrown crown = Check.withPad("C=A#");
        justDue(crown, 3, 1, 1);
        justDue(crown, 4, NONE, NONE);
    }

    // ---- promise 15: fill

    /** "FILL for h hours (0 to 99)"; "OUTSIDE". */
    private static void fillIs0To99() {
        Check.range("fill(..)", 0, 99, OUTSIDE, GlobeCrown::fill);
        Check.range("fill(..) of nothing", GlobeCrown::new, 0, 99, OUTSIDE, GlobeCrown::fill);
    }

    private static void fillDue(GlobeCrown crown, int h, int due) {
        Check.due("fill(" + h + ")", crown.fill(h), due);
    }

    /** No hour needs no filling. */
    private static void fillForNoHour() {
        fillDue(eight(1, 9), 0, 0);
    }

    /** No globe, and one that does not leak, need no filling. */
    private static void fillOfNothing() {
        fillDue(new GlobeCrown(), 99, 0);
        fillDue(eight(1, 0), 99, 0);
    }

    /** "no GLOBE that is not FREE now": a free one needs none. */
    private static void fillOfFreeOnes() {
        fillDue(eight(0, 9), 99, 0);
        fillDue(Check.one(1, 1, 9, false), 1, 1);
    }

    /** "is FREE behind any of these h hours": the hour behind which the last water goes, and the one ahead. */
    private static void fillAtTheLastWater() {
        fillDue(Check.one(10, 1, 5, false), 1, 0);
        fillDue(Check.one(10, 1, 5, false), 2, 1);
        fillDue(Check.one(11, 1, 5, false), 2, 0);
        fillDue(Check.one(11, 1, 5, false), 3, 1);
        fillDue(Check.one(9, 1, 9, false), 1, 1);
        fillDue(Check.one(99, 1, 1, false), 98, 0);
        fillDue(Check.one(99, 1, 1, false), 99, 1);
    }

    /** "(WATER is 99 then)": 99 by 9 lasts for 10 hours, not for 11. */
    private static void fillAgain() {
        fillDue(Check.one(1, 1, 9, false), 10, 1);
        fillDue(Check.one(1, 1, 9, false), 11, 2);
        fillDue(Check.one(1, 1, 9, false), 20, 2);
        fillDue(Check.one(1, 1, 9, false), 21, 3);
        fillDue(Check.one(99, 1, 9, false), 10, 0);
        fillDue(Check.one(99, 1, 9, false), 11, 1);
    }

    /** "each of one GLOBE": all eight for the longest time. */
    private static void fillAllForTheLongest() {
        fillDue(eight(1, 9), 1, 8);
        fillDue(eight(1, 9), 90, 72);
        fillDue(eight(1, 9), 91, 80);
        fillDue(eight(1, 9), 99, 80);
        fillDue(Check.full(), 99, 72);
    }

    // ---- promise 16: vote

    /** "OUTSIDE: eight digits 0 to 99999999, what". */
    private static void voteWantsAre0To99999999() {
        Check.range("vote(.., 0)", 0, 99999999, OUTSIDE, (crown, wants) -> crown.vote(wants, 0));
        Check.range("vote(.., 1)", 0, 99999999, OUTSIDE, (crown, wants) -> crown.vote(wants, 1));
    }

    /** "the level (what = 0), by how much (1)". */
    private static void voteWhatIs0Or1() {
        Check.range("vote(12345678, ..)", 0, 1, OUTSIDE, (crown, what) -> crown.vote(12345678, what));
    }

    private static void voteDue(GlobeCrown crown, int wants, int level, int off) {
        Check.due("vote(" + wants + ", 0)", crown.vote(wants, 0), level);
        Check.due("vote(" + wants + ", 1)", crown.vote(wants, 1), off);
    }

    /** "those that are there count": of none the least level, by nothing. */
    private static void voteOfNone() {
        voteDue(new GlobeCrown(), 0, 0, 0);
        voteDue(new GlobeCrown(), 99999999, 0, 0);
    }

    /** "the level (0 to 9)": the least and the greatest. */
    private static void voteLevelIs0To9() {
        voteDue(eight(1, 1), 0, 0, 0);
        voteDue(eight(1, 1), 99999999, 9, 0);
    }

    /** "(eight digits, the first one's the highest)": A's is the first, H's the last. */
    private static void voteDigits() {
        for (int g = 0; g < 8; g++) {
            GlobeCrown crown = new GlobeCrown();
            crown.globe(g, 1, 1, 1, false);
            Check.due("vote of " + g + " alone", crown.vote(12345678, 0), g + 1);
            Check.due("vote of " + g + " alone", crown.vote(12345678, 1), 0);
        }
    }

    /** "by least in all, the least": of all levels that are as good. */
    private static void voteTheLeastLevel() {
        GlobeCrown crown = new GlobeCrown();
        crown.globe(0, 1, 1, 1, false);
        crown.globe(7, 1, 1, 1, false);
        voteDue(crown, 9, 0, 9);
        voteDue(crown, 90000000, 0, 9);
        voteDue(crown, 40000006, 4, 2);
        voteDue(eight(1, 1), 9999, 0, 36);
        voteDue(eight(1, 1), 12345678, 4, 16);
    }

    /** "those that are there count": free ones, too; dropped ones not. */
    private static void voteOfFreeAndDropped() {
        voteDue(eight(0, 1), 99999999, 9, 0);
        GlobeCrown crown = eight(1, 1);
        Check.reign(crown, "A#H#", 2);
        voteDue(crown, 95555559, 5, 0);
    }

    // ---- promise 17: rank

    /** "UNKNOWN: 0 to 5". */
    private static void rankIsOf0To5() {
        Check.range("rank(.., 102345)", 0, 5, UNKNOWN, (crown, one) -> crown.rank(one, 102345));
        Check.range("rank(.., 102345)", Check::full, 0, 5, UNKNOWN, (crown, one) -> crown.rank(one, 102345));
    }

    /** "six digits (.. 0 to 5, each once ..)": the least and the greatest row are taken. */
    private static void rankRowsFromTheLeastToTheGreatest() {
        GlobeCrown crown = new GlobeCrown();
        Check.due("rank(3, 543210)", crown.rank(3, 543210), 12345);
        Check.due("rank(3, 12345)", crown.rank(3, 12345), 543210);
        Check.due("rank(3, 12354)", crown.rank(3, 12354), 12345);
        Check.due("told(103)", crown.told(103), 12354);
    }

    /** "OUTSIDE: a row that is none": next to the least and the greatest, a digit twice, 6 to 9, seven digits. */
    private static void rankRowsThatAreNone() {
        int[] rows = {12344, 12346, 543209, 543211, 0, -1, -12345, 112345, 12340, 55555, 123456, 12346, 12349, 912345,
            1012345, 1543210, 10012345, 123450 * 10, 1234, 12305, 12045, Integer.MAX_VALUE, Integer.MIN_VALUE};
        for (int row : rows) {
            Check.refused("rank(0, " + row + ")", Check::busy, crown -> crown.rank(0, row), OUTSIDE);
        }
    }

    /** Every row of six digits: just those with each of 0 to 5 once are rows. */
    private static void rankAllRows() {
        int taken = 0;
        GlobeCrown crown = new GlobeCrown();
        for (int row = -10; row < 1100000; row++) {
            if (crown.rank(0, row) != OUTSIDE) {
                taken++;
                Check.due("told(100) of " + row, crown.told(100), row);
            }
        }
        Check.due("rows", taken, 720);
    }

    /** "the first of these that fits: UNKNOWN, OUTSIDE". */
    private static void rankUnknownGoesAheadOfOutside() {
        Check.refused("rank(6, 0)", Check::busy, crown -> crown.rank(6, 0), UNKNOWN);
        Check.refused("rank(-1, 123456)", Check::busy, crown -> crown.rank(-1, 123456), UNKNOWN);
    }

    /** "012345 at first"; "which they were". */
    private static void rankAtFirst() {
        GlobeCrown crown = new GlobeCrown();
        for (int one = 0; one < 6; one++) {
            Check.due("told(10" + one + ")", crown.told(100 + one), 12345);
            Check.due("rank(" + one + ")", crown.rank(one, 543210), 12345);
            Check.due("rank(" + one + ") again", crown.rank(one, 543210), 543210);
        }
    }

    // ---- promise 18: change

    /** "how many (one = -1), which PLACE one gets. UNKNOWN." */
    private static void changeIsOfMinus1To5() {
        Check.range("change(..)", -1, 5, UNKNOWN, GlobeCrown::change);
    }

    private static GlobeCrown ranks(int... rows) {
        GlobeCrown crown = new GlobeCrown();
        for (int one = 0; one < 6; one++) {
            crown.rank(one, rows[one]);
        }
        return crown;
    }

    private static void changeDue(GlobeCrown crown, int... due) {
        int others = 0;
        for (int one = 0; one < 6; one++) {
            Check.due("change(" + one + ")", crown.change(one), due[one]);
            others += due[one] == one ? 0 : 1;
        }
        Check.due("change(-1)", crown.change(-1), others);
    }

    /** All want the same: the best goes to whose it is, and so on, one by one; none changes. */
    private static void changeOfNone() {
        changeDue(new GlobeCrown(), 0, 1, 2, 3, 4, 5);
        changeDue(ranks(543210, 543210, 543210, 543210, 543210, 543210), 0, 1, 2, 3, 4, 5);
    }

    /** A ring of one: each has the best. */
    private static void changeOfThoseWhoHaveTheBest() {
        changeDue(ranks(12345, 102345, 201345, 301245, 401235, 501234), 0, 1, 2, 3, 4, 5);
    }

    /** A ring of all six, in either way. */
    private static void changeOfAll() {
        changeDue(ranks(123450, 234501, 345012, 450123, 501234, 12345), 1, 2, 3, 4, 5, 0);
        changeDue(ranks(501234, 12345, 123450, 234501, 345012, 450123), 5, 0, 1, 2, 3, 4);
    }

    /** Three rings of two at once. */
    private static void changeInPairs() {
        changeDue(ranks(543210, 432105, 321045, 234510, 145230, 54321), 5, 4, 3, 2, 1, 0);
    }

    /** "who is left": who points at one who went points at his next best. */
    private static void changeOfThoseWhoAreLeft() {
        changeDue(ranks(102345, 12345, 13245, 102345, 102354, 104235), 1, 0, 3, 2, 5, 4);
        changeDue(ranks(12345, 12345, 12345, 12345, 12354, 12345), 0, 1, 2, 3, 5, 4);
    }

    /** A ring of one goes first, and who pointed at it is in the next. */
    private static void changeInTheNextRing() {
        changeDue(ranks(120345, 102345, 12345, 301245, 401235, 501234), 2, 1, 0, 3, 4, 5);
        changeDue(ranks(12345, 102345, 201345, 354012, 354012, 345012), 0, 1, 2, 3, 5, 4);
    }

    /** What was told ahead of other ranks is no matter. */
    private static void changeBehindOtherRanks() {
        GlobeCrown crown = ranks(123450, 234501, 345012, 450123, 501234, 12345);
        changeDue(crown, 1, 2, 3, 4, 5, 0);
        for (int one = 0; one < 6; one++) {
            crown.rank(one, 543210);
        }
        changeDue(crown, 0, 1, 2, 3, 4, 5);
        crown.rank(1, 54321);
        changeDue(crown, 1, 0, 2, 3, 4, 5);
        for (int one = 0; one < 6; one++) {
            crown.rank(one, 12345);
        }
        changeDue(crown, 0, 1, 2, 3, 4, 5);
    }

    /** Only who points into a ring without being in it waits. */
    private static void changeOfOneWhoWaits() {
        changeDue(ranks(120345, 12345, 12345, 201345, 453210, 453210), 1, 0, 2, 3, 4, 5);
    }
}
