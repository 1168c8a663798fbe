/** Snow globes that are provinces of a crown, and the reigns over them. */
public final class GlobeCrown {
    public static final int NONE = -6, UNKNOWN = -1, OUTSIDE = -2, STATE = -3, FULL = -4, NO = -5;
    public static final long LOST = -1000000000000000000L;

    private static final int GLOBES = 8;
    private static final int ALL_SETS = 256;
    private static final int SHELF = -1;
    private static final int MOST = 99;
    private static final int TOP = 9;
    private static final int FIRST_CONTENT = 5;
    private static final int FALL = 7;
    private static final int LAST_HOUR = 999;
    private static final int PAD_SIGNS = 60;
    private static final int ONES = 6;
    private static final int MOST_SIGHTS = 8;
    private static final int LAST_LOOK = 60;
    private static final int LAST_SHAKE = 20;
    private static final int SHAKES = 189;
    private static final int MOST_FLAKES = 17;
    private static final int MOST_TWICE = 8;
    private static final int HIGHEST_VOTE = 99999999;

    private final Realm realm = new Realm();
    private final Realm firstImage = new Realm();
    private final Realm secondImage = new Realm();
    private boolean isFirstKept;
    private boolean isSecondKept;
    private final Pad pad = new Pad();
    private final Reign reign = new Reign();
    private final Shakers shakers = new Shakers();
    private final Thumbs thumbs = new Thumbs();

    public GlobeCrown() {
    }

    // ---- 1 globes, reigns

    public int globe(int globe, int water, int flakes, int leaks, boolean music) {
        if (!isGlobe(globe)) {
            return UNKNOWN;
        }
        if (!isUpTo(water, MOST) || !isUpTo(flakes, MOST) || !isUpTo(leaks, TOP)) {
            return OUTSIDE;
        }
        realm.shelf.set(globe, water, flakes, leaks, music);
        return Integer.bitCount(realm.shelf.there);
    }

    public int fly(int globe, int v) {
        Shelf shelf = realm.shelf;
        if (!shelf.has(globe)) {
            return UNKNOWN;
        }
        if (!isUpTo(v, shelf.flakes[globe])) {
            return OUTSIDE;
        }
        int before = shelf.flying[globe];
        shelf.flying[globe] = v;
        return before;
    }

    public int mood(int globe, int cloudy, int content) {
        Shelf shelf = realm.shelf;
        if (!shelf.has(globe)) {
            return UNKNOWN;
        }
        if (!isUpTo(cloudy, TOP) || !isUpTo(content, TOP)) {
            return OUTSIDE;
        }
        int before = 10 * shelf.cloudy[globe] + shelf.content[globe];
        shelf.cloudy[globe] = cloudy;
        shelf.content[globe] = content;
        return before;
    }

    public int put(int globe, int in) {
        Shelf shelf = realm.shelf;
        if (!shelf.has(globe) || in != SHELF && !shelf.has(in)) {
            return UNKNOWN;
        }
        if (in != SHELF && shelf.isWithin(in, globe)) {
            return STATE;
        }
        int before = shelf.outer(globe);
        shelf.in[globe] = in;
        return before;
    }

    public int say(int sign) {
        if (sign < 33 || sign > 126) {
            return OUTSIDE;
        }
        return pad.add(sign) ? pad.size : FULL;
    }

    public int wipe() {
        int before = pad.size;
        pad.size = 0;
        return before;
    }

    public int fault() {
        return pad.faultPlace();
    }

    // ---- 2 reigns

    public int judge(int what) {
        if (!isUpTo(what, 1)) {
            return OUTSIDE;
        }
        reign.run(pad, realm.shelf);
        if (reign.hasFault) {
            return NO;
        }
        return what == 0 ? reign.badAct : reign.reason;
    }

    public int done() {
        if (!reign.run(pad, realm.shelf)) {
            return NO;
        }
        realm.shelf.takeFrom(reign.shelf);
        pad.size = 0;
        return reign.acts;
    }

    public int behind(int globe, int what) {
        if (!realm.shelf.has(globe)) {
            return UNKNOWN;
        }
        if (!isUpTo(what, 3)) {
            return OUTSIDE;
        }
        if (!reign.run(pad, realm.shelf)) {
            return NO;
        }
        Shelf shelf = reign.shelf;
        if (!shelf.has(globe)) {
            return NONE;
        }
        switch (what) {
            case 0:
                return shelf.flying[globe];
            case 1:
                return shelf.water[globe];
            case 2:
                return shelf.cloudy[globe];
            default:
                return shelf.content[globe];
        }
    }

    public int then(int what) {
        if (!isUpTo(what, 5)) {
            return OUTSIDE;
        }
        if (!reign.run(pad, realm.shelf)) {
            return NO;
        }
        switch (what) {
            case 0:
                return reign.shelf.snowBits();
            case 1:
                return reign.shelf.freeBits();
            case 2:
                return reign.shelf.taxes;
            case 3:
                return reign.shelf.hour;
            case 4:
                return reign.freeAct;
            default:
                return reign.freeGlobe;
        }
    }

    public int look(int globe, int what) {
        Shelf shelf = realm.shelf;
        if (!shelf.has(globe)) {
            return UNKNOWN;
        }
        if (!isUpTo(what, 1)) {
            return OUTSIDE;
        }
        return what == 0 ? shelf.visible(globe) : shelf.depth(globe);
    }

    // ---- 3 just those, fillings, votes, places

    public int just(int set, int what) {
        if (!isUpTo(set, ALL_SETS - 1) || !isUpTo(what, 1)) {
            return OUTSIDE;
        }
        int shaken = realm.shelf.shakenFor(set);
        if (shaken == NONE) {
            return NONE;
        }
        return what == 0 ? Integer.bitCount(shaken) : shaken;
    }

    public int fill(int h) {
        if (!isUpTo(h, MOST)) {
            return OUTSIDE;
        }
        return realm.shelf.fillings(h);
    }

    public int vote(int wants, int what) {
        if (!isUpTo(wants, HIGHEST_VOTE) || !isUpTo(what, 1)) {
            return OUTSIDE;
        }
        int best = 0;
        int least = realm.shelf.offFrom(wants, 0);
        for (int level = 1; level <= TOP; level++) {
            int off = realm.shelf.offFrom(wants, level);
            if (off < least) {
                least = off;
                best = level;
            }
        }
        return what == 0 ? best : least;
    }

    public int rank(int one, int row) {
        if (!isUpTo(one, ONES - 1)) {
            return UNKNOWN;
        }
        if (!Places.isRow(row)) {
            return OUTSIDE;
        }
        int before = realm.places.row(one);
        realm.places.setRow(one, row);
        return before;
    }

    public int change(int one) {
        if (one < -1 || one >= ONES) {
            return UNKNOWN;
        }
        realm.places.makeRings();
        return one < 0 ? realm.places.moved() : realm.places.gets[one];
    }

    // ---- 4 who shook, thumbs, flakes

    public int seen(int hour, int flying) {
        if (!isUpTo(hour, LAST_LOOK) || !isUpTo(flying, MOST)) {
            return OUTSIDE;
        }
        return realm.sights.add(hour, flying) ? realm.sights.size : FULL;
    }

    public int forget() {
        int before = realm.sights.size;
        realm.sights.size = 0;
        return before;
    }

    public int who(int i) {
        shakers.find(realm.sights);
        if (i == -1) {
            return shakers.size;
        }
        return shakers.code(i);
    }

    public int ask(int what) {
        if (!isUpTo(what, 1)) {
            return OUTSIDE;
        }
        shakers.find(realm.sights);
        if (shakers.size == 0) {
            return NONE;
        }
        int best = 0;
        int fewest = shakers.leftAtMost(0);
        for (int hour = 1; hour <= LAST_LOOK; hour++) {
            int left = shakers.leftAtMost(hour);
            if (left < fewest) {
                fewest = left;
                best = hour;
            }
        }
        return what == 0 ? best : fewest;
    }

    public int thumb(int what) {
        if (!isUpTo(what, 1)) {
            return OUTSIDE;
        }
        int first = thumbs.firstTaken(realm.shelf);
        if (what == 1) {
            return first;
        }
        return first == NONE ? 0 : 1;
    }

    public long count(int n, int t, int k, int what, int part) {
        if (!isUpTo(what, 1) || !isUpTo(part, 1) || !isUpTo(t, 10) || !isUpTo(k, MOST_FLAKES)) {
            return LOST + OUTSIDE;
        }
        if (!isUpTo(n, what == 0 ? MOST_FLAKES : MOST_TWICE)) {
            return LOST + OUTSIDE;
        }
        if (what == 0) {
            return Chance.lowest(Chance.atLeast(n, t, k), Chance.power(10, n), part);
        }
        return Chance.lowest(Chance.power(t, 2 * n), Chance.power(10, 2 * n), part);
    }

    public int year(int seed, int m, int what) {
        if (!isUpTo(seed, 9999) || m < 1 || m > 99 || !isUpTo(what, 2)) {
            return OUTSIDE;
        }
        reign.draw(realm.shelf, seed, m);
        if (what == 0) {
            return reign.shelf.taxes;
        }
        return Integer.bitCount(what == 1 ? reign.shelf.snowBits() : reign.shelf.freeBits());
    }

    public int image(int n) {
        if (!isUpTo(n, 1)) {
            return OUTSIDE;
        }
        if (n == 0) {
            firstImage.takeFrom(realm);
            isFirstKept = true;
        } else {
            secondImage.takeFrom(realm);
            isSecondKept = true;
        }
        return 1;
    }

    public int restore(int n) {
        if (!isUpTo(n, 1)) {
            return OUTSIDE;
        }
        if (n == 0 ? !isFirstKept : !isSecondKept) {
            return STATE;
        }
        realm.takeFrom(n == 0 ? firstImage : secondImage);
        return 1;
    }

    public int told(int what) {
        if (what >= 100 && what < 100 + ONES) {
            return realm.places.row(what - 100);
        }
        if (what >= 10 && what < 10 * (GLOBES + 1)) {
            return realm.shelf.toldOf(what / 10 - 1, what % 10);
        }
        switch (what) {
            case 0:
                return pad.size;
            case 1:
                return realm.shelf.there;
            case 2:
                return realm.shelf.snowBits();
            case 3:
                return realm.shelf.freeBits();
            case 4:
                return realm.shelf.taxes;
            case 5:
                return realm.shelf.hour;
            case 6:
                return realm.sights.size;
            default:
                return OUTSIDE;
        }
    }

    private static boolean isUpTo(int number, int most) {
        return number >= 0 && number <= most;
    }

    private static boolean isGlobe(int number) {
        return number >= 0 && number < GLOBES;
    }

    /** All that an image keeps. */
    private static final class Realm {
        final Shelf shelf = new Shelf();
        final Places places = new Places();
        final Sights sights = new Sights();

        void takeFrom(Realm other) {
            shelf.takeFrom(other.shelf);
            places.takeFrom(other.places);
            sights.takeFrom(other.sights);
        }
    }

    /** The globes, the taxes and the hour; an act is named by its sign on the pad. */
    private static final class Shelf {
        final int[] water = new int[GLOBES];
        final int[] flakes = new int[GLOBES];
        final int[] flying = new int[GLOBES];
        final int[] leaks = new int[GLOBES];
        final int[] cloudy = new int[GLOBES];
        final int[] content = new int[GLOBES];
        final int[] in = new int[GLOBES];
        int there;
        int music;
        int taxes;
        int hour;

        void takeFrom(Shelf other) {
            System.arraycopy(other.water, 0, water, 0, GLOBES);
            System.arraycopy(other.flakes, 0, flakes, 0, GLOBES);
            System.arraycopy(other.flying, 0, flying, 0, GLOBES);
            System.arraycopy(other.leaks, 0, leaks, 0, GLOBES);
            System.arraycopy(other.cloudy, 0, cloudy, 0, GLOBES);
            System.arraycopy(other.content, 0, content, 0, GLOBES);
            System.arraycopy(other.in, 0, in, 0, GLOBES);
            there = other.there;
            music = other.music;
            taxes = other.taxes;
            hour = other.hour;
        }

        boolean has(int globe) {
            return globe >= 0 && globe < GLOBES && (there >> globe & 1) == 1;
        }

        boolean isFree(int globe) {
            return has(globe) && water[globe] == 0;
        }

        void set(int globe, int newWater, int newFlakes, int newLeaks, boolean hasMusic) {
            if (!isGlobe(globe)) {
                return;
            }
            if (!has(globe)) {
                in[globe] = SHELF;
            }
            there |= 1 << globe;
            music = hasMusic ? music | 1 << globe : music & ~(1 << globe);
            water[globe] = newWater;
            flakes[globe] = newFlakes;
            leaks[globe] = newLeaks;
            flying[globe] = 0;
            cloudy[globe] = 0;
            content[globe] = FIRST_CONTENT;
        }

        int outer(int globe) {
            return !has(globe) || in[globe] == SHELF ? NONE : in[globe];
        }

        /** Whether one is the other, or in it, be it in others. */
        boolean isWithin(int one, int other) {
            int at = one;
            for (int step = 0; step < GLOBES && has(at); step++) {
                if (at == other) {
                    return true;
                }
                at = in[at];
            }
            return false;
        }

        int bitsWithin(int globe) {
            int bits = 0;
            for (int g = 0; g < GLOBES; g++) {
                if (isWithin(g, globe)) {
                    bits |= 1 << g;
                }
            }
            return bits;
        }

        int bitsRound(int globe) {
            int bits = 0;
            for (int g = 0; g < GLOBES; g++) {
                if (g != globe && isWithin(globe, g)) {
                    bits |= 1 << g;
                }
            }
            return bits;
        }

        int snowBits() {
            int bits = 0;
            for (int g = 0; g < GLOBES; g++) {
                if (has(g) && flying[g] > 0) {
                    bits |= 1 << g;
                }
            }
            return bits;
        }

        int freeBits() {
            int bits = 0;
            for (int g = 0; g < GLOBES; g++) {
                if (isFree(g)) {
                    bits |= 1 << g;
                }
            }
            return bits;
        }

        /** Why the act can not be; NONE, if it can. */
        int refusal(int act, int globe, int other) {
            if (act == '.') {
                return hour >= LAST_HOUR ? 6 : NONE;
            }
            if (!has(globe) || act == '>' && !has(other)) {
                return 1;
            }
            switch (act) {
                case '>':
                    if (in[globe] == other) {
                        return 3;
                    }
                    return isWithin(other, globe) ? 4 : NONE;
                case '^':
                    return in[globe] == SHELF ? 3 : NONE;
                case '+':
                case '=':
                    return water[globe] == MOST ? 5 : NONE;
                case '/':
                    return cloudy[globe] == 0 ? 5 : NONE;
                case '#':
                    return NONE;
                default:
                    return isFree(globe) ? 2 : NONE;
            }
        }

        /** Does an act that refusal() lets be. */
        void perform(int act, int globe, int other) {
            if (act == '.') {
                passHour();
                return;
            }
            if (!has(globe)) {
                return;
            }
            switch (act) {
                case '>':
                    in[globe] = other;
                    break;
                case '^':
                    in[globe] = SHELF;
                    break;
                case '+':
                    water[globe] = MOST;
                    cloudy[globe] = Math.min(TOP, cloudy[globe] + 1);
                    break;
                case '=':
                    water[globe] = MOST;
                    break;
                case '/':
                    cloudy[globe] = 0;
                    break;
                case '#':
                    drop(globe);
                    break;
                default:
                    shake(globe, act - '0');
                    break;
            }
        }

        private void shake(int globe, int strength) {
            for (int g = 0; g < GLOBES; g++) {
                if (isWithin(g, globe) && !isFree(g)) {
                    flying[g] = Math.min(flakes[g], flying[g] + 10 * strength);
                    taxes += content[g];
                }
            }
        }

        private void drop(int globe) {
            if (!has(globe)) {
                return;
            }
            for (int g = 0; g < GLOBES; g++) {
                if (has(g) && in[g] == globe) {
                    in[g] = in[globe];
                }
            }
            there &= ~(1 << globe);
        }

        private void passHour() {
            for (int g = 0; g < GLOBES; g++) {
                if (!has(g)) {
                    continue;
                }
                if (flying[g] > 0) {
                    content[g] = Math.min(TOP, content[g] + 1);
                } else if ((music >> g & 1) == 0) {
                    content[g] = Math.max(0, content[g] - 1);
                }
                flying[g] = Math.max(0, flying[g] - FALL);
                water[g] = Math.max(0, water[g] - leaks[g]);
            }
            hour++;
        }

        int visible(int globe) {
            if (!has(globe)) {
                return 0;
            }
            int hidden = 0;
            for (int g = 0; g < GLOBES; g++) {
                if (isWithin(globe, g)) {
                    hidden += 10 * cloudy[g];
                }
            }
            return Math.max(0, flying[globe] - hidden);
        }

        int depth(int globe) {
            return Integer.bitCount(bitsRound(globe));
        }

        /**
         * A globe of the set that is in no other of the set can only be shaken by itself,
         * and these shake all the others, so no other choice has as few.
         */
        int shakenFor(int set) {
            int awake = there & ~freeBits();
            if ((set & ~awake) != 0) {
                return NONE;
            }
            int chosen = 0;
            int reached = 0;
            for (int g = 0; g < GLOBES; g++) {
                if ((set >> g & 1) == 1 && (bitsRound(g) & set) == 0) {
                    chosen |= 1 << g;
                    reached |= bitsWithin(g);
                }
            }
            return (reached & awake) == set ? chosen : NONE;
        }

        int fillings(int hours) {
            int sum = 0;
            for (int g = 0; g < GLOBES; g++) {
                if (has(g) && !isFree(g)) {
                    sum += fillingsOf(g, hours);
                }
            }
            return sum;
        }

        /** To fill as late as can be wastes no water, so it needs the fewest. */
        private int fillingsOf(int globe, int hours) {
            if (!has(globe)) {
                return 0;
            }
            int fillings = 0;
            int left = water[globe];
            for (int h = 0; h < hours; h++) {
                if (left <= leaks[globe]) {
                    left = MOST;
                    fillings++;
                }
                left -= leaks[globe];
            }
            return fillings;
        }

        int offFrom(int wants, int level) {
            int off = 0;
            int rest = wants;
            for (int g = GLOBES - 1; g >= 0; g--) {
                if (has(g)) {
                    off += Math.abs(rest % 10 - level);
                }
                rest /= 10;
            }
            return off;
        }

        int toldOf(int globe, int what) {
            if (!has(globe)) {
                return OUTSIDE;
            }
            switch (what) {
                case 0:
                    return water[globe];
                case 1:
                    return flakes[globe];
                case 2:
                    return flying[globe];
                case 3:
                    return leaks[globe];
                case 4:
                    return cloudy[globe];
                case 5:
                    return music >> globe & 1;
                case 6:
                    return content[globe];
                case 7:
                    return outer(globe);
                default:
                    return OUTSIDE;
            }
        }
    }

    /** The signs of a reign that is told, and where its text breaks. */
    private static final class Pad {
        private static final int AT_ACT = 0, AT_DEED = 1, AT_OTHER = 2;
        final int[] signs = new int[PAD_SIGNS];
        int size;

        boolean add(int sign) {
            if (size < 0 || size >= PAD_SIGNS) {
                return false;
            }
            signs[size] = sign;
            size++;
            return true;
        }

        int signAt(int place) {
            return place >= 0 && place < size && place < PAD_SIGNS ? signs[place] : NONE;
        }

        int faultPlace() {
            int state = AT_ACT;
            for (int place = 0; place < size; place++) {
                state = stateBehind(state, signAt(place));
                if (state == NONE) {
                    return place;
                }
            }
            return state == AT_ACT ? NONE : size;
        }

        private static int stateBehind(int state, int sign) {
            if (state == AT_DEED) {
                if (sign == '>') {
                    return AT_OTHER;
                }
                return isDeed(sign) ? AT_ACT : NONE;
            }
            if (state == AT_ACT && sign == '.') {
                return AT_ACT;
            }
            if (!isGlobe(sign - 'A')) {
                return NONE;
            }
            return state == AT_ACT ? AT_DEED : AT_ACT;
        }

        private static boolean isDeed(int sign) {
            return sign >= '1' && sign <= '9' || sign == '+' || sign == '=' || sign == '/'
                    || sign == '^' || sign == '#';
        }
    }

    /** A reign that is tried on a shelf of its own, so that nothing is done in fact. */
    private static final class Reign {
        final Shelf shelf = new Shelf();
        boolean hasFault;
        int acts;
        int badAct;
        int reason;
        int freeAct;
        int freeGlobe;

        /** Whether there is neither a fault nor an act that can not be; then the shelf is as it is behind all acts. */
        boolean run(Pad pad, Shelf from) {
            shelf.takeFrom(from);
            hasFault = pad.faultPlace() != NONE;
            acts = 0;
            badAct = NONE;
            reason = NONE;
            freeAct = NONE;
            freeGlobe = NONE;
            int place = 0;
            for (int step = 0; step < PAD_SIGNS && place < pad.size && !hasFault && badAct == NONE; step++) {
                int first = pad.signAt(place);
                int act = first == '.' ? first : pad.signAt(place + 1);
                attempt(act, first - 'A', pad.signAt(place + 2) - 'A');
                place += first == '.' ? 1 : act == '>' ? 3 : 2;
            }
            return !hasFault && badAct == NONE;
        }

        private void attempt(int act, int globe, int other) {
            int why = shelf.refusal(act, globe, other);
            if (why != NONE) {
                badAct = acts;
                reason = why;
                return;
            }
            int before = shelf.freeBits();
            shelf.perform(act, globe, other);
            int newlyFree = shelf.freeBits() & ~before;
            if (newlyFree != 0 && freeAct == NONE) {
                freeAct = acts;
                freeGlobe = Integer.numberOfTrailingZeros(newlyFree);
            }
            acts++;
        }

        /** Draws acts, and skips those that can not be. */
        void draw(Shelf from, int seed, int draws) {
            shelf.takeFrom(from);
            int x = seed;
            for (int i = 0; i < draws; i++) {
                x = (75 * x + 74) % 65537;
                int act = drawnAct(x / 8 % 8, x / 64);
                int other = x / 64 % 8;
                if (shelf.refusal(act, x % 8, other) == NONE) {
                    shelf.perform(act, x % 8, other);
                }
            }
        }

        private static int drawnAct(int kind, int z) {
            switch (kind) {
                case 2:
                    return '+';
                case 3:
                    return '=';
                case 4:
                    return '/';
                case 5:
                    return '>';
                case 6:
                    return '^';
                case 7:
                    return '.';
                default:
                    return '1' + z % 9;
            }
        }
    }

    /** What each one would have best, and who gets what by rings. */
    private static final class Places {
        final int[] order = new int[ONES * ONES];
        final int[] gets = new int[ONES];
        private final int[] target = new int[ONES];

        Places() {
            for (int i = 0; i < ONES * ONES; i++) {
                order[i] = i % ONES;
            }
        }

        void takeFrom(Places other) {
            System.arraycopy(other.order, 0, order, 0, ONES * ONES);
        }

        static boolean isRow(int row) {
            if (row < 0) {
                return false;
            }
            int found = 0;
            int rest = row;
            for (int i = 0; i < ONES; i++) {
                found |= 1 << rest % 10;
                rest /= 10;
            }
            return rest == 0 && found == (1 << ONES) - 1;
        }

        int row(int one) {
            int row = 0;
            for (int i = 0; i < ONES; i++) {
                row = 10 * row + placeAt(one, i);
            }
            return row;
        }

        void setRow(int one, int row) {
            if (one < 0 || one >= ONES) {
                return;
            }
            int rest = row;
            for (int i = ONES - 1; i >= 0; i--) {
                order[ONES * one + i] = rest % 10;
                rest /= 10;
            }
        }

        private int placeAt(int one, int i) {
            boolean isThere = one >= 0 && one < ONES && i >= 0 && i < ONES;
            return isThere ? order[ONES * one + i] : NONE;
        }

        void makeRings() {
            int left = (1 << ONES) - 1;
            // At least one ring goes each time, so as many times as there are ones are enough.
            for (int time = 0; time < ONES && left != 0; time++) {
                for (int one = 0; one < ONES; one++) {
                    target[one] = bestOf(one, left);
                }
                int gone = 0;
                for (int one = 0; one < ONES; one++) {
                    if ((left >> one & 1) == 1 && isInRing(one)) {
                        gets[one] = target[one];
                        gone |= 1 << one;
                    }
                }
                left &= ~gone;
            }
        }

        private int bestOf(int one, int left) {
            for (int i = 0; i < ONES; i++) {
                int place = placeAt(one, i);
                if (place >= 0 && (left >> place & 1) == 1) {
                    return place;
                }
            }
            return NONE;
        }

        private boolean isInRing(int one) {
            int at = one;
            for (int step = 0; step < ONES && at >= 0 && at < ONES; step++) {
                at = target[at];
                if (at == one) {
                    return true;
                }
            }
            return false;
        }

        int moved() {
            int moved = 0;
            for (int one = 0; one < ONES; one++) {
                if (gets[one] != one) {
                    moved++;
                }
            }
            return moved;
        }
    }

    /** What was seen, and when. */
    private static final class Sights {
        final int[] hours = new int[MOST_SIGHTS];
        final int[] flying = new int[MOST_SIGHTS];
        int size;

        void takeFrom(Sights other) {
            System.arraycopy(other.hours, 0, hours, 0, MOST_SIGHTS);
            System.arraycopy(other.flying, 0, flying, 0, MOST_SIGHTS);
            size = other.size;
        }

        boolean add(int hour, int number) {
            if (size < 0 || size >= MOST_SIGHTS) {
                return false;
            }
            hours[size] = hour;
            flying[size] = number;
            size++;
            return true;
        }

        boolean fit(int strength, int begin) {
            for (int i = 0; i < size && i < MOST_SIGHTS; i++) {
                if (Shakers.flyingAt(strength, begin, hours[i]) != flying[i]) {
                    return false;
                }
            }
            return true;
        }
    }

    /** All shakings by which the sights are so, rising. */
    private static final class Shakers {
        final int[] codes = new int[SHAKES];
        private final int[] tally = new int[MOST + 1];
        int size;

        static int flyingAt(int strength, int begin, int hour) {
            return hour < begin ? 0 : Math.max(0, 10 * strength - FALL * (hour - begin));
        }

        void find(Sights sights) {
            size = 0;
            for (int strength = 1; strength <= TOP; strength++) {
                for (int begin = 0; begin <= LAST_SHAKE; begin++) {
                    if (size < SHAKES && sights.fit(strength, begin)) {
                        codes[size] = 100 * strength + begin;
                        size++;
                    }
                }
            }
        }

        int code(int i) {
            return i >= 0 && i < size && i < SHAKES ? codes[i] : NONE;
        }

        int leftAtMost(int hour) {
            for (int number = 0; number <= MOST; number++) {
                tally[number] = 0;
            }
            int most = 0;
            for (int i = 0; i < size && i < SHAKES; i++) {
                int number = flyingAt(codes[i] / 100, codes[i] % 100, hour);
                if (number >= 0 && number <= MOST) {
                    tally[number]++;
                    most = Math.max(most, tally[number]);
                }
            }
            return most;
        }
    }

    /** The game of taking globes, with all that is in them. */
    private static final class Thumbs {
        private final boolean[] wins = new boolean[ALL_SETS];
        private final int[] within = new int[GLOBES];

        int firstTaken(Shelf shelf) {
            for (int g = 0; g < GLOBES; g++) {
                within[g] = shelf.bitsWithin(g);
            }
            // Fewer globes are a lower number, so what is left is settled ahead.
            for (int left = 0; left < ALL_SETS; left++) {
                wins[left] = winningGlobe(left) != NONE;
            }
            return winningGlobe(shelf.there);
        }

        private int winningGlobe(int left) {
            for (int g = 0; g < GLOBES; g++) {
                int rest = left & ~within[g];
                if ((left >> g & 1) == 1 && rest >= 0 && rest < ALL_SETS && !wins[rest]) {
                    return g;
                }
            }
            return NONE;
        }
    }

    /** Whole numbers over powers of ten. */
    private static final class Chance {
        static long power(long base, int exponent) {
            long product = 1;
            for (int i = 0; i < exponent; i++) {
                product *= base;
            }
            return product;
        }

        private static long choose(int n, int k) {
            long ways = 1;
            for (int i = 0; i < k; i++) {
                ways = ways * (n - i) / (i + 1);
            }
            return ways;
        }

        /** The upper number, the lower one being ten to the n-th. */
        static long atLeast(int n, int tenths, int k) {
            long sum = 0;
            for (int j = k; j <= n; j++) {
                sum += choose(n, j) * power(tenths, j) * power(10 - tenths, n - j);
            }
            return sum;
        }

        private static long commonDivisor(long one, long other) {
            long a = one;
            long b = other;
            // A hundred divisions are more than any two longs need.
            for (int step = 0; step < 100 && b != 0; step++) {
                long rest = a % b;
                a = b;
                b = rest;
            }
            return a;
        }

        static long lowest(long upper, long lower, int part) {
            long divisor = commonDivisor(upper, lower);
            if (divisor <= 0) {
                return LOST + OUTSIDE;
            }
            return (part == 0 ? upper : lower) / divisor;
        }
    }
}
