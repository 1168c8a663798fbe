import java.math.BigInteger;
import java.util.ArrayList;
import java.util.HashMap;
import java.util.HashSet;
import java.util.List;
import java.util.Map;
import java.util.Set;
import java.util.TreeMap;
import java.util.regex.Matcher;
import java.util.regex.Pattern;

/** The document once more, written the slow way and apart from the class, to compare with. */
final class Model {
    private static final int NONE = Check.NONE, UNKNOWN = Check.UNKNOWN, OUTSIDE = Check.OUTSIDE;
    private static final int STATE = Check.STATE, FULL = Check.FULL, NO = Check.NO;
    private static final Pattern ACT = Pattern.compile("\\.|[A-H](?:[1-9+=/^#]|>[A-H])");

    private static final class Ball {
        int water, flakes, flying, leaks, cloudy, content = 5;
        boolean music;
        Integer in;

        Ball copy() {
            Ball b = new Ball();
            b.water = water;
            b.flakes = flakes;
            b.flying = flying;
            b.leaks = leaks;
            b.cloudy = cloudy;
            b.content = content;
            b.music = music;
            b.in = in;
            return b;
        }
    }

    private static final class World {
        final TreeMap<Integer, Ball> balls = new TreeMap<>();
        int taxes, hour;
        final List<String> rows = new ArrayList<>();
        final List<int[]> sights = new ArrayList<>();

        World copy() {
            World w = new World();
            for (Map.Entry<Integer, Ball> e : balls.entrySet()) {
                w.balls.put(e.getKey(), e.getValue().copy());
            }
            w.taxes = taxes;
            w.hour = hour;
            w.rows.addAll(rows);
            w.sights.addAll(sights);
            return w;
        }

        List<Integer> chain(int g) {
            List<Integer> up = new ArrayList<>();
            for (Integer at = g; at != null; at = balls.get(at).in) {
                up.add(at);
            }
            return up;
        }

        Set<Integer> below(int g) {
            Set<Integer> all = new HashSet<>();
            for (int b : balls.keySet()) {
                if (chain(b).contains(g)) {
                    all.add(b);
                }
            }
            return all;
        }

        int snow() {
            return balls.entrySet().stream().filter(e -> e.getValue().flying != 0).mapToInt(e -> 1 << e.getKey()).sum();
        }

        int free() {
            return balls.entrySet().stream().filter(e -> e.getValue().water == 0).mapToInt(e -> 1 << e.getKey()).sum();
        }

        int cannot(String act) {
            if (act.equals(".")) {
                return hour == 999 ? 6 : 0;
            }
            int g = act.charAt(0) - 'A';
            char deed = act.charAt(1);
            int o = deed == '>' ? act.charAt(2) - 'A' : g;
            if (!balls.containsKey(g) || !balls.containsKey(o)) {
                return 1;
            }
            Ball b = balls.get(g);
            if (Character.isDigit(deed) && b.water == 0) {
                return 2;
            }
            if (deed == '>' && b.in != null && b.in == o || deed == '^' && b.in == null) {
                return 3;
            }
            if (deed == '>' && below(g).contains(o)) {
                return 4;
            }
            if ((deed == '+' || deed == '=') && b.water == 99 || deed == '/' && b.cloudy == 0) {
                return 5;
            }
            return 0;
        }

        void act(String act) {
            if (act.equals(".")) {
                hour++;
                for (Ball b : balls.values()) {
                    if (b.flying > 0) {
                        b.content = b.content == 9 ? 9 : b.content + 1;
                    } else if (!b.music && b.content > 0) {
                        b.content--;
                    }
                    b.flying = b.flying < 7 ? 0 : b.flying - 7;
                    b.water = b.water < b.leaks ? 0 : b.water - b.leaks;
                }
                return;
            }
            int g = act.charAt(0) - 'A';
            Ball b = balls.get(g);
            char deed = act.charAt(1);
            if (Character.isDigit(deed)) {
                for (int s : below(g)) {
                    Ball c = balls.get(s);
                    if (c.water > 0) {
                        c.flying += 10 * (deed - '0');
                        c.flying = c.flying > c.flakes ? c.flakes : c.flying;
                        taxes += c.content;
                    }
                }
            } else if (deed == '+' || deed == '=') {
                b.water = 99;
                if (deed == '+' && b.cloudy < 9) {
                    b.cloudy++;
                }
            } else if (deed == '/') {
                b.cloudy = 0;
            } else if (deed == '>') {
                b.in = act.charAt(2) - 'A';
            } else if (deed == '^') {
                b.in = null;
            } else {
                for (Ball c : balls.values()) {
                    if (c.in != null && c.in == g) {
                        c.in = b.in;
                    }
                }
                balls.remove(g);
            }
        }
    }

    private World world = new World();
    private final World[] images = new World[2];
    private final StringBuilder pad = new StringBuilder();

    Model() {
        for (int i = 0; i < 6; i++) {
            world.rows.add("012345");
        }
    }

    private static boolean in(int v, int low, int high) {
        return low <= v && v <= high;
    }

    int globe(int g, int water, int flakes, int leaks, boolean music) {
        if (!in(g, 0, 7)) {
            return UNKNOWN;
        }
        if (!in(water, 0, 99) || !in(flakes, 0, 99) || !in(leaks, 0, 9)) {
            return OUTSIDE;
        }
        Ball b = new Ball();
        if (world.balls.containsKey(g)) {
            b.in = world.balls.get(g).in;
        }
        b.water = water;
        b.flakes = flakes;
        b.leaks = leaks;
        b.music = music;
        world.balls.put(g, b);
        return world.balls.size();
    }

    int fly(int g, int v) {
        Ball b = world.balls.get(g);
        if (b == null) {
            return UNKNOWN;
        }
        if (!in(v, 0, b.flakes)) {
            return OUTSIDE;
        }
        int was = b.flying;
        b.flying = v;
        return was;
    }

    int mood(int g, int cloudy, int content) {
        Ball b = world.balls.get(g);
        if (b == null) {
            return UNKNOWN;
        }
        if (!in(cloudy, 0, 9) || !in(content, 0, 9)) {
            return OUTSIDE;
        }
        int was = b.cloudy * 10 + b.content;
        b.cloudy = cloudy;
        b.content = content;
        return was;
    }

    int put(int g, int into) {
        Ball b = world.balls.get(g);
        if (b == null || into != -1 && !world.balls.containsKey(into)) {
            return UNKNOWN;
        }
        if (into != -1 && world.chain(into).contains(g)) {
            return STATE;
        }
        int was = b.in == null ? NONE : b.in;
        b.in = into == -1 ? null : into;
        return was;
    }

    int say(int sign) {
        if (!in(sign, 33, 126)) {
            return OUTSIDE;
        }
        if (pad.length() == 60) {
            return FULL;
        }
        return pad.append((char) sign).length();
    }

    int wipe() {
        int was = pad.length();
        pad.setLength(0);
        return was;
    }

    /** A text is sound so far, if some more signs could make it a reign. */
    private static boolean sound(String text) {
        for (String more : new String[] {"", "1", "A"}) {
            if ((text + more).matches("(?:" + ACT.pattern() + ")*")) {
                return true;
            }
        }
        return false;
    }

    int fault() {
        for (int n = 1; n <= pad.length(); n++) {
            if (!sound(pad.substring(0, n))) {
                return n - 1;
            }
        }
        return pad.toString().matches("(?:" + ACT.pattern() + ")*") ? NONE : pad.length();
    }

    private List<String> acts() {
        List<String> acts = new ArrayList<>();
        Matcher m = ACT.matcher(pad);
        while (m.find()) {
            acts.add(m.group());
        }
        return acts;
    }

    /** The world behind the reign; told holds the bad act, why, the first free act and globe. */
    private World behind(int[] told) {
        World w = world.copy();
        java.util.Arrays.fill(told, NONE);
        List<String> acts = acts();
        for (int i = 0; i < acts.size(); i++) {
            int why = w.cannot(acts.get(i));
            if (why != 0) {
                told[0] = i;
                told[1] = why;
                return null;
            }
            Set<Integer> held = new HashSet<>();
            w.balls.forEach((k, b) -> {
                if (b.water > 0) {
                    held.add(k);
                }
            });
            w.act(acts.get(i));
            for (int g : w.balls.keySet()) {
                if (told[2] == NONE && held.contains(g) && w.balls.get(g).water == 0) {
                    told[2] = i;
                    told[3] = g;
                }
            }
        }
        return w;
    }

    int judge(int what) {
        if (!in(what, 0, 1)) {
            return OUTSIDE;
        }
        if (fault() != NONE) {
            return NO;
        }
        int[] told = new int[4];
        behind(told);
        return told[what];
    }

    int done() {
        World w = fault() == NONE ? behind(new int[4]) : null;
        if (w == null) {
            return NO;
        }
        int n = acts().size();
        world = w;
        pad.setLength(0);
        return n;
    }

    int behind(int g, int what) {
        if (!world.balls.containsKey(g)) {
            return UNKNOWN;
        }
        if (!in(what, 0, 3)) {
            return OUTSIDE;
        }
        World w = fault() == NONE ? behind(new int[4]) : null;
        if (w == null) {
            return NO;
        }
        Ball b = w.balls.get(g);
        return b == null ? NONE : new int[] {b.flying, b.water, b.cloudy, b.content}[what];
    }

    int then(int what) {
        if (!in(what, 0, 5)) {
            return OUTSIDE;
        }
        int[] told = new int[4];
        World w = fault() == NONE ? behind(told) : null;
        if (w == null) {
            return NO;
        }
        return new int[] {w.snow(), w.free(), w.taxes, w.hour, told[2], told[3]}[what];
    }

    int look(int g, int what) {
        if (!world.balls.containsKey(g)) {
            return UNKNOWN;
        }
        if (!in(what, 0, 1)) {
            return OUTSIDE;
        }
        int left = world.balls.get(g).flying;
        for (int b : world.chain(g)) {
            left -= 10 * world.balls.get(b).cloudy;
        }
        return what == 1 ? world.chain(g).size() - 1 : left < 0 ? 0 : left;
    }

    /** Every choice of globes that can be shaken is tried. */
    int just(int set, int what) {
        if (!in(set, 0, 255) || !in(what, 0, 1)) {
            return OUTSIDE;
        }
        int best = NONE;
        for (int choice = 0; choice < 256; choice++) {
            int hit = 0;
            boolean can = true;
            for (int g = 0; g < 8; g++) {
                if ((choice >> g & 1) == 1) {
                    can &= world.balls.containsKey(g) && world.balls.get(g).water > 0;
                    for (int b : world.below(g)) {
                        hit |= world.balls.get(b).water > 0 ? 1 << b : 0;
                    }
                }
            }
            if (can && hit == set && (best == NONE || Integer.bitCount(choice) < Integer.bitCount(best))) {
                best = choice;
            }
        }
        return best == NONE || what == 1 ? best : Integer.bitCount(best);
    }

    /** By trying, ahead of each hour, both to fill and not to. */
    int fill(int h) {
        if (!in(h, 0, 99)) {
            return OUTSIDE;
        }
        int sum = 0;
        for (Ball b : world.balls.values()) {
            if (b.water == 0) {
                continue;
            }
            Map<Integer, Integer> fewest = new HashMap<>();
            fewest.put(b.water, 0);
            for (int i = 0; i < h; i++) {
                Map<Integer, Integer> next = new HashMap<>();
                fewest.forEach((w, n) -> {
                    if (w > b.leaks) {
                        next.merge(w - b.leaks, n, Math::min);
                    }
                    next.merge(99 - b.leaks, n + 1, Math::min);
                });
                fewest = next;
            }
            sum += fewest.values().stream().mapToInt(n -> n).min().getAsInt();
        }
        return sum;
    }

    int vote(int wants, int what) {
        if (!in(wants, 0, 99999999) || !in(what, 0, 1)) {
            return OUTSIDE;
        }
        String digits = String.format("%08d", wants);
        int level = -1;
        int least = Integer.MAX_VALUE;
        for (int l = 9; l >= 0; l--) {
            int off = 0;
            for (int g : world.balls.keySet()) {
                off += Math.abs(digits.charAt(g) - '0' - l);
            }
            if (off <= least) {
                least = off;
                level = l;
            }
        }
        return what == 0 ? level : least;
    }

    int rank(int one, int row) {
        if (!in(one, 0, 5)) {
            return UNKNOWN;
        }
        String text = String.format("%06d", row);
        char[] sorted = text.toCharArray();
        java.util.Arrays.sort(sorted);
        if (!new String(sorted).equals("012345")) {
            return OUTSIDE;
        }
        return Integer.parseInt(world.rows.set(one, text));
    }

    /** One ring at a time, walked from the last one who is left. */
    int change(int one) {
        if (!in(one, -1, 5)) {
            return UNKNOWN;
        }
        List<Integer> left = new ArrayList<>(List.of(0, 1, 2, 3, 4, 5));
        int[] gets = new int[6];
        while (!left.isEmpty()) {
            List<Integer> path = new ArrayList<>();
            int at = left.get(left.size() - 1);
            while (!path.contains(at)) {
                path.add(at);
                at = best(at, left);
            }
            List<Integer> ring = path.subList(path.indexOf(at), path.size());
            for (int r : ring) {
                gets[r] = best(r, left);
            }
            left.removeAll(ring);
        }
        if (one >= 0) {
            return gets[one];
        }
        int moved = 0;
        for (int i = 0; i < 6; i++) {
            moved += gets[i] == i ? 0 : 1;
        }
        return moved;
    }

    private int best(int one, List<Integer> left) {
        return world.rows.get(one).chars().map(c -> c - '0').filter(left::contains).findFirst().getAsInt();
    }

    int seen(int hour, int flying) {
        if (!in(hour, 0, 60) || !in(flying, 0, 99)) {
            return OUTSIDE;
        }
        if (world.sights.size() == 8) {
            return FULL;
        }
        world.sights.add(new int[] {hour, flying});
        return world.sights.size();
    }

    int forget() {
        int was = world.sights.size();
        world.sights.clear();
        return was;
    }

    /** By letting the flakes fall, hour by hour. */
    private static int fallen(int code, int hour) {
        int flying = 0;
        for (int i = 0; i <= hour; i++) {
            flying = i == code % 100 ? 10 * (code / 100) : Math.max(0, flying - 7);
        }
        return flying;
    }

    private List<Integer> fitting() {
        List<Integer> codes = new ArrayList<>();
        for (int code = 100; code < 1000; code++) {
            int c = code;
            if (code % 100 <= 20 && world.sights.stream().allMatch(s -> fallen(c, s[0]) == s[1])) {
                codes.add(code);
            }
        }
        return codes;
    }

    int who(int i) {
        List<Integer> codes = fitting();
        return i == -1 ? codes.size() : in(i, 0, codes.size() - 1) ? codes.get(i) : NONE;
    }

    int ask(int what) {
        if (!in(what, 0, 1)) {
            return OUTSIDE;
        }
        List<Integer> codes = fitting();
        if (codes.isEmpty()) {
            return NONE;
        }
        int best = -1;
        int fewest = Integer.MAX_VALUE;
        for (int hour = 60; hour >= 0; hour--) {
            Map<Integer, Integer> groups = new HashMap<>();
            for (int code : codes) {
                groups.merge(fallen(code, hour), 1, Integer::sum);
            }
            int most = groups.values().stream().mapToInt(n -> n).max().getAsInt();
            if (most <= fewest) {
                fewest = most;
                best = hour;
            }
        }
        return what == 0 ? best : fewest;
    }

    private boolean canWin(Set<Integer> left, Map<Set<Integer>, Boolean> known) {
        Boolean is = known.get(left);
        if (is == null) {
            is = firstTaken(left, known) != NONE;
            known.put(left, is);
        }
        return is;
    }

    private int firstTaken(Set<Integer> left, Map<Set<Integer>, Boolean> known) {
        for (int g : world.balls.keySet()) {
            if (left.contains(g)) {
                Set<Integer> rest = new HashSet<>(left);
                rest.removeAll(world.below(g));
                if (!canWin(rest, known)) {
                    return g;
                }
            }
        }
        return NONE;
    }

    int thumb(int what) {
        if (!in(what, 0, 1)) {
            return OUTSIDE;
        }
        int first = firstTaken(new HashSet<>(world.balls.keySet()), new HashMap<>());
        return what == 1 ? first : first == NONE ? 0 : 1;
    }

    /** By going through every way in which the flakes can be counted or not, flake by flake. */
    long count(int n, int t, int k, int what, int part) {
        if (!in(t, 0, 10) || !in(k, 0, 17) || !in(what, 0, 1) || !in(part, 0, 1) || !in(n, 0, what == 0 ? 17 : 8)) {
            return Check.REFUSED;
        }
        int flakes = what == 0 ? n : 2 * n;
        int least = what == 0 ? k : 2 * n;
        BigInteger upper = ways(flakes, t, least);
        BigInteger lower = BigInteger.TEN.pow(flakes);
        BigInteger divisor = upper.gcd(lower);
        return (part == 0 ? upper : lower).divide(divisor).longValueExact();
    }

    private static BigInteger ways(int flakes, int t, int least) {
        if (least > flakes) {
            return BigInteger.ZERO;
        }
        if (flakes == 0) {
            return BigInteger.ONE;
        }
        BigInteger counted = ways(flakes - 1, t, Math.max(0, least - 1));
        BigInteger missed = ways(flakes - 1, t, least);
        return counted.multiply(BigInteger.valueOf(t)).add(missed.multiply(BigInteger.valueOf(10 - t)));
    }

    int year(int seed, int m, int what) {
        if (!in(seed, 0, 9999) || !in(m, 1, 99) || !in(what, 0, 2)) {
            return OUTSIDE;
        }
        World w = world.copy();
        long x = seed;
        for (int i = 0; i < m; i++) {
            x = (75 * x + 74) % 65537;
            long z = x / 64;
            String g = String.valueOf((char) ('A' + x % 8));
            String shake = g + (1 + z % 9);
            String[] acts = {shake, shake, g + "+", g + "=", g + "/", g + ">" + (char) ('A' + z % 8), g + "^", "."};
            String act = acts[(int) (x / 8 % 8)];
            if (w.cannot(act) == 0) {
                w.act(act);
            }
        }
        return new int[] {w.taxes, Integer.bitCount(w.snow()), Integer.bitCount(w.free())}[what];
    }

    int image(int n) {
        if (!in(n, 0, 1)) {
            return OUTSIDE;
        }
        images[n] = world.copy();
        return 1;
    }

    int restore(int n) {
        if (!in(n, 0, 1)) {
            return OUTSIDE;
        }
        if (images[n] == null) {
            return STATE;
        }
        world = images[n].copy();
        return 1;
    }

    int told(int what) {
        if (in(what, 0, 6)) {
            int bits = world.balls.keySet().stream().mapToInt(g -> 1 << g).sum();
            return new int[] {pad.length(), bits, world.snow(), world.free(), world.taxes, world.hour,
                world.sights.size()}[what];
        }
        if (in(what, 100, 105)) {
            return Integer.parseInt(world.rows.get(what - 100));
        }
        Ball b = world.balls.get(Math.floorDiv(what, 10) - 1);
        if (b == null || Math.floorMod(what, 10) > 7) {
            return OUTSIDE;
        }
        return new int[] {b.water, b.flakes, b.flying, b.leaks, b.cloudy, b.music ? 1 : 0, b.content,
            b.in == null ? NONE : b.in}[what % 10];
    }
}
