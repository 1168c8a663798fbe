/** The edges that the document names for promises 19 to 22; the words behind each test are the document's. */
public final class SightsEdgesTest {
    private static final int NONE = Check.NONE, OUTSIDE = Check.OUTSIDE, FULL = Check.FULL;

    public static void main(String[] args) throws ReflectiveOperationException {
        Check.every(SightsEdgesTest.class);
    }

    /** A crown with sights, each an hour and how many were flying. */
    private static GlobeCrown sights(int... pairs) {
        GlobeCrown crown = new GlobeCrown();
        for (int i = 0; i + 1 < pairs.length; i += 2) {
            crown.seen(pairs[i], pairs[i + 1]);
        }
        return crown;
    }

    private static GlobeCrown eightSights() {
        return sights(0, 0, 60, 0, 60, 0, 60, 0, 60, 0, 60, 0, 60, 0, 20, 6);
    }

    // ---- promise 19: seen

    /** "at hour i (0 to 60)"; "OUTSIDE". */
    private static void seenHourIs0To60() {
        Check.range("seen(.., 0)", 0, 60, OUTSIDE, (crown, hour) -> crown.seen(hour, 0));
    }

    /** "how many were FLYING (0 to 99)"; "OUTSIDE". */
    private static void seenFlyingIs0To99() {
        Check.range("seen(20, ..)", 0, 99, OUTSIDE, (crown, flying) -> crown.seen(20, flying));
    }

    /** "SIGHTS, 8 at most"; "FULL". */
    private static void seenUpTo8() {
        GlobeCrown crown = new GlobeCrown();
        for (int i = 1; i <= 8; i++) {
            Check.due("seen, " + i, crown.seen(60, 0), i);
        }
        Check.due("seen, 9", crown.seen(60, 0), FULL);
        Check.due("told(6)", crown.told(6), 8);
        Check.due("all still fit", crown.who(-1), 189);
        Check.refused("seen(20, 99)", SightsEdgesTest::eightSights, full -> full.seen(20, 99), FULL);
        Check.refused("seen(0, 0)", Check::full, full -> full.seen(0, 0), FULL);
    }

    /** The eighth counts as the others do. */
    private static void seenTheEighth() {
        Check.due("who(-1)", eightSights().who(-1), 2);
    }

    /** "the first of these that fits: OUTSIDE, FULL". */
    private static void seenOutsideGoesAheadOfFull() {
        Check.refused("seen(61, 0)", Check::full, crown -> crown.seen(61, 0), OUTSIDE);
        Check.refused("seen(-1, 0)", Check::full, crown -> crown.seen(-1, 0), OUTSIDE);
        Check.refused("seen(0, 100)", Check::full, crown -> crown.seen(0, 100), OUTSIDE);
        Check.refused("seen(0, -1)", Check::full, crown -> crown.seen(0, -1), OUTSIDE);
    }

    // ---- promise 20: forget

    /** "SIGHTS go: how many there were": none, one, all. */
    private static void forgetTellsHowManyThereWere() {
        Check.due("forget(), none", new GlobeCrown().forget(), 0);
        GlobeCrown crown = sights(0, 99);
        Check.due("forget(), one", crown.forget(), 1);
        Check.due("forget(), none", crown.forget(), 0);
        Check.due("told(6)", crown.told(6), 0);
        Check.due("all fit again", crown.who(-1), 189);
        GlobeCrown full = Check.full();
        Check.due("forget(), all", full.forget(), 8);
        Check.due("one more", full.seen(0, 0), 1);
    }

    /** Sights go, and nothing else. */
    private static void forgetLeavesAllElse() {
        GlobeCrown crown = Check.busy();
        crown.forget();
        String before = Check.all(crown);
        crown.seen(1, 1);
        crown.forget();
        Check.unchanged(crown, before, "forget");
    }

    // ---- promise 21: who

    private static void whoDue(GlobeCrown crown, int... codes) {
        Check.due("who(-1)", crown.who(-1), codes.length);
        for (int i = 0; i < codes.length; i++) {
            Check.due("who(" + i + ")", crown.who(i), codes[i]);
        }
        Check.due("who(" + codes.length + ")", crown.who(codes.length), NONE);
    }

    /** "how many (i = -1), the i-th; NONE": without sights all fit, s being 1 to 9 and b 0 to 20, rising. */
    private static void whoOfAll() {
        GlobeCrown crown = new GlobeCrown();
        Check.due("who(-1)", crown.who(-1), 189);
        for (int i = 0; i < 189; i++) {
            Check.due("who(" + i + ")", crown.who(i), 100 * (i / 21 + 1) + i % 21);
        }
        Check.due("who(189)", crown.who(189), NONE);
    }

    /** "NONE": there is no i-th, on either side. */
    private static void whoBeyond() {
        for (int i : new int[] {-2, -100, 189, 190, 1000, Integer.MIN_VALUE, Integer.MAX_VALUE}) {
            Check.refused("who(" + i + ")", Check::busy, crown -> crown.who(i), NONE);
            Check.refused("who(" + i + ")", GlobeCrown::new, crown -> crown.who(i), NONE);
        }
        GlobeCrown crown = new GlobeCrown();
        Check.due("who(188) of all", crown.who(188), 920);
        crown.seen(20, 6);
        for (int i = 2; i < 190; i++) {
            Check.due("who(" + i + ") of two", crown.who(i), NONE);
        }
    }

    /** Nobody fits. */
    private static void whoOfNobody() {
        whoDue(sights(0, 1));
        whoDue(sights(20, 99));
        whoDue(sights(0, 10, 0, 20));
    }

    /** "at hour b (0 to 20)": one who shook at 21 is none. */
    private static void whoAtTheLastHour() {
        whoDue(sights(20, 90), 920);
        whoDue(sights(21, 90));
        whoDue(sights(21, 83), 920);
        whoDue(sights(0, 90), 900);
    }

    /** "as hard as s (1 to 9)": the least and the greatest. */
    private static void whoByTheHardness() {
        whoDue(sights(0, 10), 100);
        whoDue(sights(0, 90), 900);
        whoDue(sights(0, 99));
    }

    /** "(none ahead of b)": at b all are flying. */
    private static void whoAheadOfTheHour() {
        whoDue(sights(7, 50, 6, 0), 507);
        whoDue(sights(7, 50, 6, 57));
        whoDue(sights(6, 0, 7, 50, 8, 43), 507);
    }

    /** "less 7 times (i less b) were FLYING, 0 at least": 3 are left, then none, and never fewer. */
    private static void whoAtTheLastFlake() {
        whoDue(sights(0, 10, 1, 3), 100);
        whoDue(sights(0, 10, 2, 0), 100);
        whoDue(sights(0, 10, 60, 0), 100);
        whoDue(sights(0, 70, 9, 7), 700);
        whoDue(sights(0, 70, 10, 0), 700);
        whoDue(sights(20, 90, 32, 6), 920);
        whoDue(sights(20, 90, 33, 0), 920);
        whoDue(sights(32, 6), 920);
        whoDue(sights(33, 6));
        Check.due("nothing at 33: who(-1)", sights(33, 0).who(-1), 189);
        Check.due("nothing at 32: who(-1)", sights(32, 0).who(-1), 188);
    }

    /** "by which all SIGHTS are so": each of eight. */
    private static void whoByAllSights() {
        for (int bad = 0; bad < 8; bad++) {
            GlobeCrown crown = new GlobeCrown();
            for (int i = 0; i < 8; i++) {
                crown.seen(20, i == bad ? 7 : 6);
            }
            Check.due("sight " + bad + " is otherwise", crown.who(-1), 0);
        }
        whoDue(sights(20, 6, 20, 6, 20, 6, 20, 6, 20, 6, 20, 6, 20, 6, 20, 6), 218, 908);
    }

    // ---- promise 22: ask

    /** "the hour (what = 0 ..), how many (1)"; "OUTSIDE". */
    private static void askIs0Or1() {
        Check.range("ask(..)", 0, 1, OUTSIDE, GlobeCrown::ask);
        Check.range("ask(..) without sights", GlobeCrown::new, 0, 1, OUTSIDE, GlobeCrown::ask);
    }

    private static void askDue(GlobeCrown crown, int hour, int many) {
        Check.due("ask(0)", crown.ask(0), hour);
        Check.due("ask(1)", crown.ask(1), many);
    }

    /** "NONE: nobody fits"; what else is asked for is outside all the same. */
    private static void askOfNobody() {
        askDue(sights(20, 99), NONE, NONE);
        Check.refused("ask(2)", () -> sights(20, 99), crown -> crown.ask(2), OUTSIDE);
        Check.refused("ask(-1)", () -> sights(20, 99), crown -> crown.ask(-1), OUTSIDE);
    }

    /** One alone is left whatever is seen: the least hour. */
    private static void askOfOne() {
        askDue(sights(20, 90), 0, 1);
        askDue(sights(32, 6), 0, 1);
    }

    /** "the least": of all hours that are as good; two differ first when the one of them shakes. */
    private static void askOfTwo() {
        whoDue(sights(20, 6), 218, 908);
        askDue(sights(20, 6), 8, 1);
        whoDue(sights(20, 10), 120, 810);
        askDue(sights(20, 10), 10, 1);
    }

    /** "(what = 0, 0 to 60)": the first hours. */
    private static void askAtTheFirstHours() {
        whoDue(sights(10, 20), 210, 900);
        askDue(sights(10, 20), 0, 1);
        whoDue(sights(11, 20), 211, 901);
        askDue(sights(11, 20), 1, 1);
        whoDue(sights(12, 20), 212, 902);
        askDue(sights(12, 20), 2, 1);
    }

    /** Of all 189 by going through every hour and all that can be seen. */
    private static void askOfAll() {
        int best = -1;
        int fewest = 190;
        for (int hour = 0; hour <= 60; hour++) {
            int most = 0;
            for (int flying = 0; flying <= 99; flying++) {
                most = Math.max(most, sights(hour, flying).who(-1));
            }
            if (most < fewest) {
                fewest = most;
                best = hour;
            }
        }
        askDue(new GlobeCrown(), best, fewest);
        askDue(new GlobeCrown(), 12, 121);
    }

    /** A look is asked for though no more sight can be kept. */
    private static void askOfEightSights() {
        askDue(eightSights(), 8, 1);
    }
}
