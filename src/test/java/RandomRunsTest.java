import java.util.Random;

/** Runs by chance, each call answered by the class and by the model; the seeds are fixed. */
public final class RandomRunsTest {
    private static final int RUNS = 1500;
    private static final int CALLS = 300;
    private static final int[] WILD = {Integer.MIN_VALUE, -100, -2, -1, 256, 1000, 100000000, Integer.MAX_VALUE};
    private static final String DEEDS = "123456789+=/^#+=/^";

    private final Random random;
    private final GlobeCrown crown = new GlobeCrown();
    private final Model model = new Model();
    private final String run;

    private RandomRunsTest(int seed) {
        random = new Random(seed);
        run = "run " + seed + ": ";
    }

    public static void main(String[] args) {
        for (int seed = 0; seed < RUNS; seed++) {
            RandomRunsTest test = new RandomRunsTest(seed);
            for (int i = 0; i < CALLS; i++) {
                test.call(test.random.nextInt(32));
            }
        }
        Check.end();
    }

    /** Mostly from low to high, now and then one beyond, seldom far off. */
    private int some(int low, int high) {
        int kind = random.nextInt(40);
        if (kind == 0) {
            return WILD[random.nextInt(WILD.length)];
        }
        if (kind == 1) {
            return random.nextBoolean() ? low - 1 : high + 1;
        }
        return low + random.nextInt(high - low + 1);
    }

    private void due(String call, long got, long want, int... arguments) {
        if (got != want) {
            Check.due(run + call + java.util.Arrays.toString(arguments), got, want);
        }
    }

    private void call(int kind) {
        int a = some(0, 7);
        int b = some(0, 1);
        if (kind < 8) {
            callGlobes(kind, a);
        } else if (kind < 16) {
            callReigns(kind, a);
        } else if (kind < 22) {
            callCounsel(kind, b);
        } else {
            callRest(kind, b);
        }
    }

    private void callGlobes(int kind, int g) {
        switch (kind) {
            case 0:
            case 1:
                int water = random.nextInt(4) == 0 ? 0 : some(0, 99);
                int flakes = some(0, 99);
                int leaks = some(0, 9);
                boolean music = random.nextBoolean();
                due("globe", crown.globe(g, water, flakes, leaks, music), model.globe(g, water, flakes, leaks, music),
                        g, water, flakes, leaks, music ? 1 : 0);
                break;
            case 2:
                int v = some(0, 60);
                due("fly", crown.fly(g, v), model.fly(g, v), g, v);
                break;
            case 3:
                int cloudy = some(0, 9);
                int content = some(0, 9);
                due("mood", crown.mood(g, cloudy, content), model.mood(g, cloudy, content), g, cloudy, content);
                break;
            case 4:
            case 5:
                int in = some(-1, 7);
                due("put", crown.put(g, in), model.put(g, in), g, in);
                break;
            case 6:
                int sign = some(33, 126);
                due("say", crown.say(sign), model.say(sign), sign);
                break;
            default:
                due("wipe", crown.wipe(), model.wipe());
                break;
        }
    }

    private String letter() {
        return String.valueOf((char) ('A' + random.nextInt(8)));
    }

    private void write() {
        StringBuilder text = new StringBuilder();
        int acts = random.nextInt(random.nextInt(3) == 0 ? 30 : 5);
        for (int i = 0; i < acts; i++) {
            int kind = random.nextInt(6);
            if (kind < 2) {
                text.append('.');
            } else if (kind == 2) {
                text.append(letter()).append('>').append(letter());
            } else {
                text.append(letter()).append(DEEDS.charAt(random.nextInt(DEEDS.length())));
            }
        }
        if (random.nextInt(15) == 0) {
            text.append(letter()).append(random.nextBoolean() ? ">" : "");
        }
        for (int i = 0; i < text.length(); i++) {
            due("say", crown.say(text.charAt(i)), model.say(text.charAt(i)), text.charAt(i));
        }
    }

    private void callReigns(int kind, int g) {
        if (kind < 10) {
            due("wipe", crown.wipe(), model.wipe());
            write();
        } else if (kind < 12) {
            due("done", crown.done(), model.done());
        } else if (kind == 12) {
            due("fault", crown.fault(), model.fault());
            int what = some(0, 1);
            due("judge", crown.judge(what), model.judge(what), what);
        } else if (kind == 13) {
            int what = some(0, 3);
            due("behind", crown.behind(g, what), model.behind(g, what), g, what);
        } else if (kind == 14) {
            int what = some(0, 5);
            due("then", crown.then(what), model.then(what), what);
        } else {
            int what = some(0, 1);
            due("look", crown.look(g, what), model.look(g, what), g, what);
        }
    }

    private int setThere() {
        int set = some(0, 255);
        return random.nextInt(3) == 0 ? set : set & crown.told(1) & ~crown.told(3);
    }

    private int someRow() {
        StringBuilder row = new StringBuilder();
        java.util.List<Integer> digits = new java.util.ArrayList<>(java.util.List.of(0, 1, 2, 3, 4, 5));
        java.util.Collections.shuffle(digits, random);
        digits.forEach(row::append);
        return random.nextInt(10) == 0 ? some(0, 543210) : Integer.parseInt(row.toString());
    }

    private void callCounsel(int kind, int what) {
        if (kind == 16) {
            int set = setThere();
            due("just", crown.just(set, what), model.just(set, what), set, what);
        } else if (kind == 17) {
            int h = some(0, 99);
            due("fill", crown.fill(h), model.fill(h), h);
        } else if (kind == 18) {
            int wants = some(0, 99999999);
            due("vote", crown.vote(wants, what), model.vote(wants, what), wants, what);
        } else if (kind < 21) {
            int one = some(0, 5);
            int row = someRow();
            due("rank", crown.rank(one, row), model.rank(one, row), one, row);
        } else {
            int one = some(-1, 5);
            due("change", crown.change(one), model.change(one), one);
        }
    }

    private void callRest(int kind, int what) {
        if (kind == 22) {
            int hour = some(0, random.nextBoolean() ? 60 : 25);
            int flying = random.nextInt(3) > 0 ? 0 : some(0, 99);
            due("seen", crown.seen(hour, flying), model.seen(hour, flying), hour, flying);
        } else if (kind == 23) {
            if (random.nextInt(3) == 0) {
                due("forget", crown.forget(), model.forget());
            }
        } else if (kind == 24) {
            int i = some(-1, random.nextBoolean() ? 190 : 5);
            due("who", crown.who(i), model.who(i), i);
        } else if (kind == 25) {
            due("ask", crown.ask(what), model.ask(what), what);
        } else if (kind == 26) {
            due("thumb", crown.thumb(what), model.thumb(what), what);
        } else if (kind == 27) {
            int n = some(0, 9);
            int t = some(0, 10);
            int k = some(0, 10);
            int part = some(0, 1);
            due("count", crown.count(n, t, k, what, part), model.count(n, t, k, what, part), n, t, k, what, part);
        } else if (kind == 28) {
            int seed = some(0, 9999);
            int m = some(1, 99);
            int which = some(0, 2);
            due("year", crown.year(seed, m, which), model.year(seed, m, which), seed, m, which);
        } else if (kind == 29) {
            int n = some(0, 1);
            due("image", crown.image(n), model.image(n), n);
        } else if (kind == 30) {
            int n = some(0, 1);
            due("restore", crown.restore(n), model.restore(n), n);
        } else {
            for (int told = -1; told < 107; told++) {
                due("told", crown.told(told), model.told(told), told);
            }
        }
    }
}
