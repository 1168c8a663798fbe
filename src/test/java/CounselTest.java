/** Promises 14 to 18: just those, fillings, votes, places. */
public final class CounselTest {
    private static final int NONE = Check.NONE, UNKNOWN = Check.UNKNOWN, OUTSIDE = Check.OUTSIDE;

    public static void main(String[] args) {
        just();
        fill();
        vote();
        rank();
        change();
        Check.end();
    }

    private static void justDue(GlobeCrown crown, int set, int many, int which) {
        String before = Check.all(crown);
        Check.due("just(" + set + ", 0)", crown.just(set, 0), many);
        Check.due("just(" + set + ", 1)", crown.just(set, 1), which);
        Check.unchanged(crown, before, "just(" + set + ")");
    }

    private static void just() {
        GlobeCrown crown = Check.three();
        crown.globe(3, 9, 9, 9, false);
        crown.globe(7, 9, 9, 9, false);
        justDue(crown, 0, 0, 0);
        justDue(crown, 1, NONE, NONE);
        justDue(crown, 2, 1, 2);
        justDue(crown, 3, 1, 1);
        justDue(crown, 4, NONE, NONE);
        justDue(crown, 7, NONE, NONE);
        justDue(crown, 16, NONE, NONE);
        justDue(crown, 139, 3, 137);
        justDue(crown, 138, 3, 138);
        crown.put(3, 2);
        crown.put(7, 2);
        // A free one can not be shaken, so what is in it is shaken one by one.
        justDue(crown, 136, 2, 136);
        justDue(crown, 8, 1, 8);
        crown.put(2, 1);
        justDue(crown, 139, 1, 1);
        justDue(crown, 138, 1, 2);
        justDue(crown, 3, NONE, NONE);
        justDue(crown, 137, NONE, NONE);
        justOfAll();
        Check.due("just(-1, 0)", crown.just(-1, 0), OUTSIDE);
        Check.due("just(256, 0)", crown.just(256, 0), OUTSIDE);
        Check.due("just(0, 2)", crown.just(0, 2), OUTSIDE);
        Check.due("just(0, -1)", crown.just(0, -1), OUTSIDE);
    }

    private static void justOfAll() {
        GlobeCrown crown = new GlobeCrown();
        for (int g = 0; g < 8; g++) {
            crown.globe(g, 1, 1, 1, false);
        }
        justDue(crown, 255, 8, 255);
        for (int g = 1; g < 8; g++) {
            crown.put(g, g - 1);
        }
        justDue(crown, 255, 1, 1);
        justDue(crown, 128, 1, 128);
        justDue(crown, 192, 1, 64);
        justDue(crown, 127, NONE, NONE);
    }

    private static void fill() {
        GlobeCrown crown = new GlobeCrown();
        Check.due("no globe", crown.fill(99), 0);
        crown.globe(0, 1, 0, 9, false);
        int[] hours = {0, 1, 10, 11, 20, 21, 99};
        int[] due = {0, 1, 1, 2, 2, 3, 10};
        for (int i = 0; i < hours.length; i++) {
            Check.due("fill(" + hours[i] + ")", crown.fill(hours[i]), due[i]);
        }
        crown.globe(1, 0, 0, 9, false);
        Check.due("a free one needs none", crown.fill(99), 10);
        crown.globe(2, 1, 0, 0, false);
        Check.due("nor one that does not leak", crown.fill(99), 10);
        crown.globe(3, 99, 0, 1, false);
        Check.due("98 hours", crown.fill(98), 10);
        Check.due("99 hours", crown.fill(99), 11);
        crown.put(3, 0);
        Check.due("what is in what is no matter", crown.fill(99), 11);
        Check.due("fill(-1)", crown.fill(-1), OUTSIDE);
        Check.due("fill(100)", crown.fill(100), OUTSIDE);
    }

    private static void voteDue(GlobeCrown crown, int wants, int level, int off) {
        Check.due("vote(" + wants + ", 0)", crown.vote(wants, 0), level);
        Check.due("vote(" + wants + ", 1)", crown.vote(wants, 1), off);
    }

    private static void vote() {
        GlobeCrown crown = new GlobeCrown();
        voteDue(crown, 99999999, 0, 0);
        crown.globe(0, 1, 1, 1, false);
        voteDue(crown, 90000000, 9, 0);
        voteDue(crown, 9999999, 0, 0);
        crown.globe(7, 0, 1, 1, false);
        voteDue(crown, 30000008, 3, 5);
        voteDue(crown, 83333333, 3, 5);
        crown.globe(3, 1, 1, 1, false);
        voteDue(crown, 10090004, 4, 8);
        voteDue(crown, 99999999, 9, 0);
        Check.due("vote(-1, 0)", crown.vote(-1, 0), OUTSIDE);
        Check.due("vote(100000000, 0)", crown.vote(100000000, 0), OUTSIDE);
        Check.due("vote(0, 2)", crown.vote(0, 2), OUTSIDE);
        Check.due("vote(0, -1)", crown.vote(0, -1), OUTSIDE);
    }

    private static void rank() {
        GlobeCrown crown = new GlobeCrown();
        Check.due("rank(0)", crown.rank(0, 543210), 12345);
        Check.due("rank(0)", crown.rank(0, 12354), 543210);
        Check.due("told(100)", crown.told(100), 12354);
        Check.due("told(101)", crown.told(101), 12345);
        Check.due("rank(5)", crown.rank(5, 102345), 12345);
        Check.due("told(105)", crown.told(105), 102345);
        String before = Check.all(crown);
        int[] rows = {-1, 0, 12344, 123456, 612345, 1012345, 1543210, 54321 - 1, 11345, -12345, 999999};
        for (int row : rows) {
            Check.due("rank(0, " + row + ")", crown.rank(0, row), OUTSIDE);
        }
        Check.due("rank(-1)", crown.rank(-1, 0), UNKNOWN);
        Check.due("rank(6)", crown.rank(6, 12345), UNKNOWN);
        Check.unchanged(crown, before, "rank");
    }

    private static void changeDue(GlobeCrown crown, int... due) {
        int moved = 0;
        for (int one = 0; one < 6; one++) {
            Check.due("change(" + one + ")", crown.change(one), due[one]);
            moved += due[one] == one ? 0 : 1;
        }
        Check.due("change(-1)", crown.change(-1), moved);
    }

    private static void change() {
        GlobeCrown crown = new GlobeCrown();
        changeDue(crown, 0, 1, 2, 3, 4, 5);
        for (int one = 0; one < 6; one++) {
            crown.rank(one, 543210);
        }
        changeDue(crown, 0, 1, 2, 3, 4, 5);
        crown.rank(5, 12345);
        changeDue(crown, 5, 1, 2, 3, 4, 0);
        crown.rank(5, 543210);
        changeDue(crown, 0, 1, 2, 3, 4, 5);
        crown.rank(5, 12345);
        crown.rank(0, 123450);
        crown.rank(1, 234501);
        crown.rank(2, 345012);
        crown.rank(3, 450123);
        crown.rank(4, 501234);
        changeDue(crown, 1, 2, 3, 4, 5, 0);
        crown.rank(0, 102345);
        crown.rank(1, 12345);
        crown.rank(2, 32145);
        crown.rank(3, 123450);
        crown.rank(4, 301254);
        crown.rank(5, 310425);
        changeDue(crown, 1, 0, 3, 2, 5, 4);
        Check.due("change(-2)", crown.change(-2), UNKNOWN);
        Check.due("change(6)", crown.change(6), UNKNOWN);
    }
}
