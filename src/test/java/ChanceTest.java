import java.math.BigInteger;

/** Promises 23 to 25: thumbs, flakes counted by chance, years by draws. */
public final class ChanceTest {
    private static final int NONE = Check.NONE, OUTSIDE = Check.OUTSIDE;

    public static void main(String[] args) {
        thumb();
        countAtLeast();
        countBoth();
        countRefused();
        year();
        yearByReigns();
        yearRefused();
        Check.end();
    }

    private static void thumbDue(GlobeCrown crown, int first) {
        String before = Check.all(crown);
        Check.due("thumb(0)", crown.thumb(0), first == NONE ? 0 : 1);
        Check.due("thumb(1)", crown.thumb(1), first);
        Check.unchanged(crown, before, "thumb");
    }

    private static void thumb() {
        GlobeCrown crown = new GlobeCrown();
        thumbDue(crown, NONE);
        crown.globe(6, 0, 0, 0, false);
        thumbDue(crown, 6);
        crown.globe(2, 1, 0, 0, false);
        thumbDue(crown, NONE);
        crown.put(6, 2);
        thumbDue(crown, 2);
        crown.globe(4, 1, 0, 0, false);
        thumbDue(crown, 6);
        crown.globe(0, 1, 0, 0, false);
        crown.put(4, 0);
        thumbDue(crown, NONE);
        crown.globe(7, 1, 0, 0, false);
        crown.put(7, 6);
        // Heaps of 2 (E in A) and of 3 (H in G in C): the third goes.
        thumbDue(crown, 7);
        crown.put(7, 2);
        // C with G and H in it is worth 1; A with E in it 2: E goes, and 1 is left on each side.
        thumbDue(crown, 4);
        for (int g = 0; g < 8; g++) {
            crown.globe(g, 1, 1, 1, false);
            crown.put(g, -1);
        }
        thumbDue(crown, NONE);
        crown.put(7, 6);
        thumbDue(crown, 6);
        crown.put(5, 4);
        thumbDue(crown, NONE);
        Check.due("thumb(2)", crown.thumb(2), OUTSIDE);
        Check.due("thumb(-1)", crown.thumb(-1), OUTSIDE);
    }

    private static void fraction(String call, long upper, long lower, BigInteger a, BigInteger b) {
        BigInteger divisor = a.gcd(b);
        Check.due(call + " upper", upper, a.divide(divisor).longValueExact());
        Check.due(call + " lower", lower, b.divide(divisor).longValueExact());
    }

    /** The same by adding flake after flake, without a formula. */
    private static BigInteger ways(int n, int t, int k) {
        BigInteger[] row = new BigInteger[n + 1];
        java.util.Arrays.fill(row, BigInteger.ZERO);
        row[0] = BigInteger.ONE;
        for (int flake = 0; flake < n; flake++) {
            for (int j = n; j >= 0; j--) {
                BigInteger missed = row[j].multiply(BigInteger.valueOf(10 - t));
                BigInteger counted = j == 0 ? BigInteger.ZERO : row[j - 1].multiply(BigInteger.valueOf(t));
                row[j] = missed.add(counted);
            }
        }
        BigInteger sum = BigInteger.ZERO;
        for (int j = k; j <= n; j++) {
            sum = sum.add(row[j]);
        }
        return sum;
    }

    private static void countAtLeast() {
        GlobeCrown crown = new GlobeCrown();
        for (int n = 0; n <= 17; n++) {
            for (int t = 0; t <= 10; t++) {
                for (int k = 0; k <= 17; k++) {
                    fraction("count(" + n + ", " + t + ", " + k + ", 0)", crown.count(n, t, k, 0, 0),
                            crown.count(n, t, k, 0, 1), ways(n, t, k), BigInteger.TEN.pow(n));
                }
            }
        }
        Check.due("none can be", crown.count(3, 5, 4, 0, 1), 1);
        Check.due("never", crown.count(17, 0, 1, 0, 0), 0);
    }

    private static void countBoth() {
        GlobeCrown crown = new GlobeCrown();
        for (int n = 0; n <= 8; n++) {
            for (int t = 0; t <= 10; t++) {
                fraction("count(" + n + ", " + t + ", 1)", crown.count(n, t, 17, 1, 0),
                        crown.count(n, t, 0, 1, 1), BigInteger.valueOf(t).pow(2 * n), BigInteger.TEN.pow(2 * n));
            }
        }
    }

    private static void countRefused() {
        GlobeCrown crown = new GlobeCrown();
        int[][] rows = {{18, 1, 1, 0, 0}, {-1, 1, 1, 0, 0}, {9, 1, 1, 1, 0}, {-1, 1, 1, 1, 0}, {1, 11, 1, 0, 0},
            {1, -1, 1, 0, 0}, {1, 1, 18, 0, 0}, {1, 1, -1, 0, 0}, {1, 1, 18, 1, 0}, {1, 1, -1, 1, 0},
            {1, 1, 1, 2, 0}, {1, 1, 1, -1, 0}, {1, 1, 1, 0, 2}, {1, 1, 1, 0, -1}};
        for (int[] row : rows) {
            Check.due("count" + java.util.Arrays.toString(row),
                    crown.count(row[0], row[1], row[2], row[3], row[4]), Check.REFUSED);
        }
    }

    private static void year() {
        GlobeCrown crown = new GlobeCrown();
        crown.globe(0, 50, 40, 3, false);
        // By seed 0 the first draw is 74: globe 2, kind 1 (74 by 8 is 9), z 1.
        Check.due("shakes a globe that is not there", crown.year(0, 1, 0), 0);
        crown.globe(2, 50, 40, 3, false);
        Check.due("shakes C by 2", crown.year(0, 1, 0), 5);
        Check.due("snow in one", crown.year(0, 1, 1), 1);
        Check.due("none free", crown.year(0, 1, 2), 0);
        crown.globe(1, 0, 40, 3, false);
        Check.due("one is free", crown.year(0, 1, 2), 1);
        crown.put(0, 2);
        Check.due("with all that is in it", crown.year(0, 1, 0), 10);
        Check.reign(crown, "A9", 1);
        Check.due("taxes as they are, and more", crown.year(0, 1, 0), 15);
        String before = Check.all(crown);
        crown.year(9999, 99, 0);
        crown.year(0, 99, 1);
        Check.unchanged(crown, before, "year");
    }

    /** A year, and the same acts told on the pad one by one. */
    private static void yearByReigns() {
        for (int seed = 0; seed <= 9999; seed += 101) {
            GlobeCrown crown = new GlobeCrown();
            for (int g = 0; g < 8; g++) {
                crown.globe(g, seed % 7 * (g % 4) * 5, 99 - g, (seed + g) % 10, g == 3);
                crown.mood(g, g % 3, g + 1);
            }
            GlobeCrown same = new GlobeCrown();
            int x = seed;
            for (int g = 0; g < 8; g++) {
                same.globe(g, crown.told(10 * g + 10), crown.told(10 * g + 11), crown.told(10 * g + 13), g == 3);
                same.mood(g, g % 3, g + 1);
            }
            for (int m = 1; m <= 99; m++) {
                x = (int) ((75L * x + 74) % 65537);
                Check.write(same, drawn(x));
                same.done();
                String call = "year(" + seed + ", " + m + ", ";
                Check.due(call + "0)", crown.year(seed, m, 0), same.told(4));
                Check.due(call + "1)", crown.year(seed, m, 1), Integer.bitCount(same.told(2)));
                Check.due(call + "2)", crown.year(seed, m, 2), Integer.bitCount(same.told(3)));
            }
        }
    }

    private static String drawn(int x) {
        String globe = "ABCDEFGH".substring(x % 8, x % 8 + 1);
        int z = x / 64;
        switch (x / 8 % 8) {
            case 0:
            case 1:
                return globe + "123456789".charAt(z % 9);
            case 5:
                return globe + ">" + "ABCDEFGH".charAt(z % 8);
            case 7:
                return ".";
            default:
                return globe + "  +=/ ^".charAt(x / 8 % 8);
        }
    }

    private static void yearRefused() {
        GlobeCrown crown = Check.three();
        int[][] rows = {{-1, 1, 0}, {10000, 1, 0}, {0, 0, 0}, {0, -1, 0}, {0, 100, 0}, {0, 1, 3}, {0, 1, -1}};
        for (int[] row : rows) {
            Check.due("year" + java.util.Arrays.toString(row), crown.year(row[0], row[1], row[2]), OUTSIDE);
        }
    }
}
