/** Promises 19 to 22: sights, who shook, the hour to look at next. */
public final class SightsTest {
    private static final int NONE = Check.NONE, OUTSIDE = Check.OUTSIDE, FULL = Check.FULL;

    public static void main(String[] args) {
        seen();
        forget();
        who();
        ask();
        Check.end();
    }

    private static void seen() {
        GlobeCrown crown = new GlobeCrown();
        Check.due("seen(0, 0)", crown.seen(0, 0), 1);
        Check.due("seen(60, 99)", crown.seen(60, 99), 2);
        for (int i = 3; i <= 8; i++) {
            Check.due("seen, the same", crown.seen(0, 0), i);
        }
        String before = Check.all(crown);
        Check.due("seen, 9", crown.seen(0, 0), FULL);
        Check.due("seen(61, 0)", crown.seen(61, 0), OUTSIDE);
        Check.due("seen(-1, 0)", crown.seen(-1, 0), OUTSIDE);
        Check.due("seen(0, 100)", crown.seen(0, 100), OUTSIDE);
        Check.due("seen(0, -1)", crown.seen(0, -1), OUTSIDE);
        Check.unchanged(crown, before, "seen");
    }

    private static void forget() {
        GlobeCrown crown = new GlobeCrown();
        Check.due("forget", crown.forget(), 0);
        crown.seen(1, 1);
        crown.seen(1, 2);
        Check.due("forget", crown.forget(), 2);
        Check.due("told(6)", crown.told(6), 0);
        Check.due("who(-1)", crown.who(-1), 189);
        Check.due("seen", crown.seen(1, 1), 1);
    }

    private static void whoDue(GlobeCrown crown, int... codes) {
        Check.due("who(-1)", crown.who(-1), codes.length);
        for (int i = 0; i < codes.length; i++) {
            Check.due("who(" + i + ")", crown.who(i), codes[i]);
        }
        Check.due("who, beyond", crown.who(codes.length), NONE);
        Check.due("who(-2)", crown.who(-2), NONE);
    }

    private static void who() {
        GlobeCrown crown = new GlobeCrown();
        Check.due("who(0)", crown.who(0), 100);
        Check.due("who(21)", crown.who(21), 200);
        Check.due("who(188)", crown.who(188), 920);
        Check.due("who(189)", crown.who(189), NONE);
        crown.seen(20, 6);
        whoDue(crown, 218, 908);
        crown.seen(17, 0);
        whoDue(crown, 218);
        crown.seen(18, 20);
        crown.seen(21, 0);
        whoDue(crown, 218);
        crown.seen(19, 99);
        whoDue(crown);
        crown.forget();
        crown.seen(20, 10);
        whoDue(crown, 120, 810);
        crown.forget();
        crown.seen(32, 0);
        Check.due("the hardest at the last hour still falls", crown.who(-1), 188);
        Check.due("who(187)", crown.who(187), 919);
        crown.forget();
        crown.seen(32, 6);
        whoDue(crown, 920);
    }

    private static void askDue(GlobeCrown crown, int hour, int many) {
        Check.due("ask(0)", crown.ask(0), hour);
        Check.due("ask(1)", crown.ask(1), many);
    }

    private static void ask() {
        GlobeCrown crown = new GlobeCrown();
        askDue(crown, 12, 121);
        crown.seen(20, 6);
        // 218 and 908 differ first at hour 8, where 90 are flying by the second.
        askDue(crown, 8, 1);
        crown.seen(17, 0);
        askDue(crown, 0, 1);
        crown.seen(19, 99);
        askDue(crown, NONE, NONE);
        Check.due("ask(2)", crown.ask(2), OUTSIDE);
        Check.due("ask(-1)", crown.ask(-1), OUTSIDE);
        crown.forget();
        askDue(crown, 12, 121);
        crown.seen(34, 0);
        crown.seen(19, 0);
        crown.seen(33, 0);
        Check.due("told(6)", crown.told(6), 3);
        Check.due("ask(1) of fewer", crown.ask(1) < 121 ? 1 : 0, 1);
    }
}
