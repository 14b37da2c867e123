/**
 * An office of maps: each MAP is a WAY that is to be a shortest one, and the office digs
 * LANES longer or shorter so that it is. Every row is made once, in the constructors, and
 * used again, because all calls of a run share one room.
 */
public final class AskedMaps {
    public static final int BAD = -1, STATE = -2, FULL = -3, NONE = -9;
    public static final int NO = -1000000;

    private static final int FEWEST_PLACES = 2;
    private static final int MOST_PLACES = 5;
    private static final int MOST_LANES = 6;
    private static final int MOST_MAPS = 4;
    private static final int MOST_LETTERS = 120;
    private static final int HIGHEST_LETTER = 255;
    private static final int LEAST_LENGTH = 1;
    private static final int MOST_LENGTH = 5;
    private static final int LEAST_SPADES = 1;
    private static final int MOST_SPADES = 9;
    private static final int MOST_DUG = 99999;
    private static final int MOST_UNDONE = 10;
    private static final int MOST_TOOK = 6;
    private static final int IMAGES = 2;
    private static final int PARTS = 10;

    /** Six LANES among five PLACES give 33 WAYS at most, and 5 at most between two PLACES. */
    private static final int MOST_WAYS = 33;
    private static final int MOST_RIVALS = 4;

    /** THE DRAFT is kept as one row more behind those of the MAPS. */
    private static final int DRAFT = MOST_MAPS;
    private static final int ROWS = MOST_MAPS + 1;

    private static final int FAULT_BASE = -10;

    /** Above the cost of any digging: six LANES, four steps each, nine SPADES. */
    private static final int BEYOND_COST = 1000;

    private final Text text = new Text();
    private Ground ground = new Ground();
    private Ground otherGround = new Ground();
    private final Now current = new Now();
    private final Now toldNow = new Now();
    private final Ways ways = new Ways();
    private final Past past = new Past();
    private final Now[] images = new Now[IMAGES];
    private int imagesKept = 0;
    private final Search search = new Search();
    private final Asked asked = new Asked();
    private final Spited spited = new Spited();
    private final Stranger stranger = new Stranger();
    private long traced = 0;

    public AskedMaps() {
        for (int i = 0; i < IMAGES; i++) {
            images[i] = new Now();
        }
    }

    // ---- the land

    public int type(int letter) {
        if (letter < 0 || letter > HIGHEST_LETTER) {
            return BAD;
        }
        return text.add(letter) ? text.size : FULL;
    }

    public int clear() {
        return text.empty();
    }

    public int land() {
        otherGround.empty();
        toldNow.empty();
        int items = text.read(otherGround, toldNow);
        if (items < 0) {
            return items;
        }
        text.empty();
        Ground old = ground;
        ground = otherGround;
        otherGround = old;
        ways.find(ground);
        current.become(toldNow);
        past.empty();
        imagesKept = 0;
        stranger.empty();
        forgetAnswers();
        return items;
    }

    public int lane(int l, int what) {
        if (!isLane(l)) {
            return BAD;
        }
        switch (what) {
            case 0: return ground.first[l];
            case 1: return ground.second[l];
            case 2: return current.lengths[l];
            case 3: return ground.spades[l];
            case 4: return mapsBy(l);
            default: return BAD;
        }
    }

    public int map(int m, int what) {
        if (!isMap(m)) {
            return BAD;
        }
        switch (what) {
            case 0: return current.sizes[m];
            case 1: return ground.lengthOf(current.lanesOf(ground, m), current.lengths);
            case 2: return heldMaps() >> m & 1;
            default: return BAD;
        }
    }

    public int place(int m, int k) {
        if (m != -1 && !isMap(m) || k < 0 || k >= MOST_PLACES) {
            return BAD;
        }
        return current.placeAt(m == -1 ? DRAFT : m, k);
    }

    public int now(int what) {
        switch (what) {
            case 0: return heldMaps();
            case 1: return current.sizes[DRAFT];
            case 2: return current.dug;
            case 3: return past.known;
            default: return BAD;
        }
    }

    private boolean isPlace(int p) {
        return p >= 0 && p < ground.places;
    }

    private boolean isLane(int l) {
        return l >= 0 && l < ground.lanes;
    }

    private boolean isMap(int m) {
        return m >= 0 && m < current.maps;
    }

    private int mapsBy(int l) {
        int many = 0;
        for (int m = 0; m < current.maps; m++) {
            many += current.lanesOf(ground, m) >> l & 1;
        }
        return many;
    }

    private int heldMaps() {
        ways.measure(ground, current.lengths);
        int held = 0;
        for (int m = 0; m < current.maps; m++) {
            if (ways.isShortest(ways.wayBy(current.lanesOf(ground, m)))) {
                held |= 1 << m;
            }
        }
        return held;
    }

    // ---- what is done

    public int names(int p) {
        if (!isPlace(p)) {
            return BAD;
        }
        if (!current.fits(ground, DRAFT, p)) {
            return STATE;
        }
        beforeChange();
        current.append(DRAFT, p);
        return current.sizes[DRAFT];
    }

    public int asks() {
        if (!draftIsWay() || current.maps >= MOST_MAPS || askedCost() == NONE) {
            return STATE;
        }
        int cost = askedCost();
        beforeChange();
        System.arraycopy(asked.lengths, 0, current.lengths, 0, ground.lanes);
        addDug(cost);
        current.draftToMap();
        return cost;
    }

    public int digs(int l, int length) {
        if (!isLane(l) || length < LEAST_LENGTH || length > MOST_LENGTH) {
            return BAD;
        }
        int old = current.lengths[l];
        if (old == length) {
            return STATE;
        }
        beforeChange();
        current.lengths[l] = length;
        addDug(ground.spades[l] * Math.abs(length - old));
        return old;
    }

    public int burns(int m) {
        if (!isMap(m)) {
            return BAD;
        }
        beforeChange();
        current.dropMap(m);
        return current.maps;
    }

    public int wipes() {
        int had = current.sizes[DRAFT];
        if (had == 0) {
            return STATE;
        }
        beforeChange();
        current.sizes[DRAFT] = 0;
        return had;
    }

    public int undo() {
        if (past.known == 0) {
            return STATE;
        }
        past.restore(current);
        forgetAnswers();
        return past.known;
    }

    private boolean draftIsWay() {
        return current.sizes[DRAFT] >= 2;
    }

    private void addDug(int cost) {
        current.dug = Math.min(MOST_DUG, current.dug + cost);
    }

    private void beforeChange() {
        past.remember(current);
        forgetAnswers();
    }

    /** ASKING and SPITE are worked out once for each NOW, as they are the dearest answers. */
    private void forgetAnswers() {
        asked.known = false;
        spited.known = false;
    }

    // ---- the land as it is

    public int far(int a, int b) {
        if (!isPlace(a) || !isPlace(b)) {
            return BAD;
        }
        if (a == b) {
            return 0;
        }
        ways.measure(ground, current.lengths);
        return ways.leastBetween(a, b);
    }

    public int by(int a, int b) {
        if (!isPlace(a) || !isPlace(b) || a == b) {
            return BAD;
        }
        ways.measure(ground, current.lengths);
        return ways.shortestBetween(a, b);
    }

    public int knot(int p) {
        if (!isPlace(p)) {
            return BAD;
        }
        int sum = 0;
        for (int l = 0; l < ground.lanes; l++) {
            if (ground.first[l] == p || ground.second[l] == p) {
                sum += ground.spades[l] * current.lengths[l];
            }
        }
        return sum;
    }

    // ---- asking

    public int asking(int l) {
        if (l != -1 && !isLane(l)) {
            return BAD;
        }
        int cost = askedCost();
        return l == -1 || cost == NONE ? cost : asked.lengths[l];
    }

    public int clash() {
        int good = standing();
        int found = 0;
        for (int some = 1; some < 1 << current.maps; some++) {
            boolean fewer = found == 0 || Integer.bitCount(some) < Integer.bitCount(found);
            if ((good >> some & 1) == 0 && fewer) {
                found = some;
            }
        }
        return found;
    }

    public int fire(int what) {
        if (what != 0 && what != 1) {
            return BAD;
        }
        int which = NONE;
        int least = NONE;
        for (int m = 0; m < current.maps; m++) {
            int cost = costOf(waysOf(allMaps() & ~(1 << m)));
            if (which == NONE || cost != NONE && (least == NONE || cost < least)) {
                which = m;
                least = cost;
            }
        }
        return what == 0 ? which : least;
    }

    public int spite(int what) {
        if (what < 0 || what > 2) {
            return BAD;
        }
        if (current.sizes[DRAFT] != 0) {
            return STATE;
        }
        if (what == 2) {
            return ways.many;
        }
        findSpite();
        return what == 0 ? spited.cost : spited.impossible;
    }

    public int spiteful(int k) {
        if (k < 0 || k >= MOST_PLACES) {
            return BAD;
        }
        if (current.sizes[DRAFT] != 0) {
            return STATE;
        }
        findSpite();
        return ways.placeAt(spited.way, k);
    }

    public int odds(int x, int what) {
        if (x < 0 || x > PARTS || what != 0 && what != 1) {
            return BAD;
        }
        int good = standing();
        int upper = 0;
        int lower = 1;
        for (int left = 0; left < 1 << current.maps; left++) {
            if ((good >> left & 1) == 1) {
                upper += chances(left, x);
            }
        }
        for (int m = 0; m < current.maps; m++) {
            lower *= PARTS;
        }
        int both = commonDivisor(upper, lower);
        int part = what == 0 ? upper : lower;
        return both == 0 ? part : part / both;
    }

    private int allMaps() {
        return (1 << current.maps) - 1;
    }

    /** The WAYS, as bits, of some MAPS (bits), and of THE DRAFT as if it were one. */
    private long waysOf(int some) {
        long held = 0;
        for (int m = 0; m < current.maps; m++) {
            if ((some >> m & 1) == 1) {
                held |= ways.bitBy(current.lanesOf(ground, m));
            }
        }
        return draftIsWay() ? held | ways.bitBy(current.lanesOf(ground, DRAFT)) : held;
    }

    private int costOf(long held) {
        search.begin(ground, ways, current.lengths, held);
        return search.leastCost();
    }

    private boolean canHold(long held) {
        search.begin(ground, ways, current.lengths, held);
        return search.findFirst(BEYOND_COST);
    }

    private int askedCost() {
        if (!asked.known) {
            asked.cost = costOf(waysOf(allMaps()));
            if (asked.cost != NONE && search.findFirst(asked.cost)) {
                System.arraycopy(search.chosen, 0, asked.lengths, 0, MOST_LANES);
            }
            asked.known = true;
        }
        return asked.cost;
    }

    /** Which sets of MAPS can all hold, THE DRAFT too: a bit for each set (itself bits). */
    private int standing() {
        int all = allMaps();
        if (canHold(waysOf(all))) {
            return (1 << all + 1) - 1;
        }
        int good = 0;
        for (int some = 0; some < all; some++) {
            if (partsStand(good, some) && canHold(waysOf(some))) {
                good |= 1 << some;
            }
        }
        return good;
    }

    private boolean partsStand(int good, int some) {
        for (int m = 0; m < current.maps; m++) {
            if ((some >> m & 1) == 1 && (good >> (some & ~(1 << m)) & 1) == 0) {
                return false;
            }
        }
        return true;
    }

    /** How many of all outcomes leave just these MAPS (bits), if each burns by x of 10. */
    private int chances(int left, int x) {
        int product = 1;
        for (int m = 0; m < current.maps; m++) {
            product *= (left >> m & 1) == 1 ? PARTS - x : x;
        }
        return product;
    }

    private static int commonDivisor(int a, int b) {
        int big = a;
        int small = b;
        for (int i = 0; i < 64 && small != 0; i++) {
            int rest = big % small;
            big = small;
            small = rest;
        }
        return big;
    }

    private void findSpite() {
        if (spited.known) {
            return;
        }
        spited.empty();
        long held = waysOf(allMaps());
        boolean some = canHold(held);
        for (int w = 0; w < ways.many; w++) {
            spited.see(w, some ? costOf(held | 1L << w) : NONE);
        }
        spited.known = true;
    }

    // ---- a stranger

    public int took(int l, int is) {
        if (!isLane(l) || is != 0 && is != 1) {
            return BAD;
        }
        return stranger.add(l, is) ? stranger.many : FULL;
    }

    public int forget() {
        return stranger.empty();
    }

    public int can(int what) {
        if (what < 0 || what > 2) {
            return BAD;
        }
        ways.measure(ground, current.lengths);
        stranger.guess(ways);
        switch (what) {
            case 0: return stranger.fitting;
            case 1: return stranger.fitting == 0 ? NONE : stranger.inAll;
            default: return stranger.inSome;
        }
    }

    public int look() {
        ways.measure(ground, current.lengths);
        stranger.guess(ways);
        if (stranger.fitting < 2) {
            return NONE;
        }
        int which = NONE;
        int least = 0;
        for (int l = 0; l < ground.lanes; l++) {
            int by = stranger.byLane[l];
            int greater = Math.max(by, stranger.fitting - by);
            if (which == NONE || greater < least) {
                which = l;
                least = greater;
            }
        }
        return which;
    }

    // ---- kinds, images

    public int rate(int kind, int l) {
        if (!isLane(l)) {
            return NO;
        }
        switch (kind) {
            case 0: return asLane(l);
            case 1: return asBrook(l);
            case 2: return asCart(l);
            case 3: return asParlour(l);
            case 4: return asHome(l);
            case 5: return asSea(l);
            default: return NO;
        }
    }

    public int keep(int image) {
        if (image < 0 || image >= IMAGES) {
            return BAD;
        }
        images[image].become(current);
        imagesKept |= 1 << image;
        return current.maps;
    }

    public int back(int image) {
        if (image < 0 || image >= IMAGES) {
            return BAD;
        }
        if ((imagesKept >> image & 1) == 0) {
            return STATE;
        }
        current.become(images[image]);
        past.empty();
        forgetAnswers();
        return current.maps;
    }

    public int count(int what) {
        switch (what) {
            case 0: return ground.places;
            case 1: return ground.lanes;
            case 2: return current.maps;
            case 3: return stranger.many;
            case 4: return text.size;
            default: return BAD;
        }
    }

    public long trace() {
        return traced;
    }

    private int asLane(int l) {
        traced += 1;
        return current.lengths[l];
    }

    private int asBrook(int l) {
        traced += 10;
        return asLane(l) + ground.spades[l];
    }

    private int asCart(int l) {
        traced += 100;
        return asLane(l) - mapsBy(l);
    }

    private int asParlour(int l) {
        traced += 1000;
        return 2 * asBrook(l);
    }

    private int asHome(int l) {
        traced += 10000;
        return asCart(l) + l;
    }

    private int asSea(int l) {
        traced += 100000;
        return asLane(l) + current.dug;
    }

    /** PLACES and LANES: what only a text can change. */
    private static final class Ground {
        int places;
        int lanes;
        final int[] first = new int[MOST_LANES];
        final int[] second = new int[MOST_LANES];
        final int[] spades = new int[MOST_LANES];
        private final int[] joins = new int[MOST_PLACES * MOST_PLACES];

        Ground() {
            empty();
        }

        void empty() {
            places = FEWEST_PLACES;
            lanes = 0;
            for (int i = 0; i < joins.length; i++) {
                joins[i] = NONE;
            }
        }

        /** The LANE between two PLACES, or NONE. */
        int laneBetween(int a, int b) {
            if (a < 0 || a >= places || b < 0 || b >= places) {
                return NONE;
            }
            return joins[a * MOST_PLACES + b];
        }

        void addLane(int a, int b, int cost) {
            if (lanes >= MOST_LANES || a < 0 || a >= places || b < 0 || b >= places) {
                return;
            }
            first[lanes] = a;
            second[lanes] = b;
            spades[lanes] = cost;
            joins[a * MOST_PLACES + b] = lanes;
            joins[b * MOST_PLACES + a] = lanes;
            lanes++;
        }

        int lengthOf(int laneBits, int[] lengths) {
            int sum = 0;
            for (int l = 0; l < lanes; l++) {
                if ((laneBits >> l & 1) == 1) {
                    sum += lengths[l];
                }
            }
            return sum;
        }
    }

    /** What an IMAGE keeps: LENGTHS, MAPS, THE DRAFT, DUG. */
    private static final class Now {
        final int[] lengths = new int[MOST_LANES];
        final int[] sizes = new int[ROWS];
        private final int[] spots = new int[ROWS * MOST_PLACES];
        int maps = 0;
        int dug = 0;

        void empty() {
            maps = 0;
            dug = 0;
            sizes[DRAFT] = 0;
        }

        void become(Now other) {
            System.arraycopy(other.lengths, 0, lengths, 0, MOST_LANES);
            System.arraycopy(other.sizes, 0, sizes, 0, ROWS);
            System.arraycopy(other.spots, 0, spots, 0, ROWS * MOST_PLACES);
            maps = other.maps;
            dug = other.dug;
        }

        int placeAt(int row, int k) {
            return k >= 0 && k < sizes[row] ? spots[row * MOST_PLACES + k] : NONE;
        }

        /** Whether a row is a WAY yet, with this PLACE behind its others. */
        boolean fits(Ground on, int row, int p) {
            int size = sizes[row];
            if (size == 0) {
                return true;
            }
            if (size >= MOST_PLACES || on.laneBetween(placeAt(row, size - 1), p) == NONE) {
                return false;
            }
            for (int k = 0; k < size; k++) {
                if (placeAt(row, k) == p) {
                    return false;
                }
            }
            return true;
        }

        void append(int row, int p) {
            if (sizes[row] >= MOST_PLACES) {
                return;
            }
            spots[row * MOST_PLACES + sizes[row]] = p;
            sizes[row]++;
        }

        int lanesOf(Ground on, int row) {
            int bits = 0;
            for (int k = 1; k < sizes[row]; k++) {
                int l = on.laneBetween(placeAt(row, k - 1), placeAt(row, k));
                if (l != NONE) {
                    bits |= 1 << l;
                }
            }
            return bits;
        }

        void draftToMap() {
            if (maps >= MOST_MAPS) {
                return;
            }
            copyRow(DRAFT, maps);
            maps++;
            sizes[DRAFT] = 0;
        }

        void dropMap(int m) {
            if (m < 0 || m >= maps) {
                return;
            }
            maps--;
            for (int row = m; row < maps; row++) {
                copyRow(row + 1, row);
            }
        }

        private void copyRow(int from, int to) {
            System.arraycopy(spots, from * MOST_PLACES, spots, to * MOST_PLACES, MOST_PLACES);
            sizes[to] = sizes[from];
        }
    }

    /** What can be UNDONE, in a ring, so that the eleventh takes the oldest one's row. */
    private static final class Past {
        private final Now[] rows = new Now[MOST_UNDONE];
        private int next = 0;
        int known = 0;

        Past() {
            for (int i = 0; i < MOST_UNDONE; i++) {
                rows[i] = new Now();
            }
        }

        void empty() {
            known = 0;
        }

        void remember(Now what) {
            rows[next].become(what);
            next = (next + 1) % MOST_UNDONE;
            known = Math.min(MOST_UNDONE, known + 1);
        }

        void restore(Now what) {
            if (known == 0) {
                return;
            }
            next = (next + MOST_UNDONE - 1) % MOST_UNDONE;
            known--;
            what.become(rows[next]);
        }
    }

    /** All WAYS of the land from their lower end to their higher one, in the order of SPITE. */
    private static final class Ways {
        int many = 0;
        private final int[] spots = new int[MOST_WAYS * MOST_PLACES];
        private final int[] sizes = new int[MOST_WAYS];
        /** The two ends of a WAY as one number, which WAYS between the same ends share. */
        final int[] ends = new int[MOST_WAYS];
        final int[] laneBits = new int[MOST_WAYS];
        private final int[] lengths = new int[MOST_WAYS];
        private final int[] least = new int[MOST_PLACES * MOST_PLACES];
        private final int[] trail = new int[MOST_PLACES];

        void find(Ground on) {
            many = 0;
            for (int p = 0; p < on.places; p++) {
                trail[0] = p;
                walk(this, on, 1, 0);
            }
        }

        /** Goes on from a trail of so many PLACES; deeper than MOST_PLACES there is no WAY. */
        private static void walk(Ways all, Ground on, int size, int bits) {
            int last = all.trail[size - 1];
            if (last > all.trail[0]) {
                all.addTrail(size, bits);
            }
            for (int p = 0; p < on.places && size < MOST_PLACES; p++) {
                int l = on.laneBetween(last, p);
                if (l != NONE && !all.onTrail(p, size)) {
                    all.trail[size] = p;
                    walk(all, on, size + 1, bits | 1 << l);
                }
            }
        }

        private boolean onTrail(int p, int size) {
            for (int k = 0; k < size; k++) {
                if (trail[k] == p) {
                    return true;
                }
            }
            return false;
        }

        private void addTrail(int size, int bits) {
            if (many >= MOST_WAYS) {
                return;
            }
            System.arraycopy(trail, 0, spots, many * MOST_PLACES, size);
            sizes[many] = size;
            ends[many] = trail[0] * MOST_PLACES + trail[size - 1];
            laneBits[many] = bits;
            many++;
        }

        void measure(Ground on, int[] by) {
            for (int i = 0; i < least.length; i++) {
                least[i] = NONE;
            }
            for (int w = 0; w < many; w++) {
                lengths[w] = on.lengthOf(laneBits[w], by);
                int till = least[ends[w]];
                least[ends[w]] = till == NONE ? lengths[w] : Math.min(till, lengths[w]);
            }
        }

        /** As measured; so are leastBetween and shortestBetween. */
        boolean isShortest(int w) {
            return w >= 0 && w < many && lengths[w] == least[ends[w]];
        }

        int leastBetween(int a, int b) {
            return least[Math.min(a, b) * MOST_PLACES + Math.max(a, b)];
        }

        int shortestBetween(int a, int b) {
            int both = Math.min(a, b) * MOST_PLACES + Math.max(a, b);
            int found = 0;
            for (int w = 0; w < many; w++) {
                if (ends[w] == both && isShortest(w)) {
                    found++;
                }
            }
            return found;
        }

        int placeAt(int w, int k) {
            return w >= 0 && w < many && k >= 0 && k < sizes[w] ? spots[w * MOST_PLACES + k] : NONE;
        }

        /** The WAY by just these LANES, whichever way it is gone, or NONE. */
        int wayBy(int bits) {
            for (int w = 0; w < many; w++) {
                if (laneBits[w] == bits) {
                    return w;
                }
            }
            return NONE;
        }

        long bitBy(int bits) {
            int w = wayBy(bits);
            return w == NONE ? 0 : 1L << w;
        }
    }

    /** ASKING, as it was last worked out. */
    private static final class Asked {
        boolean known = false;
        int cost = NONE;
        final int[] lengths = new int[MOST_LANES];
    }

    /** SPITE, as it was last worked out. */
    private static final class Spited {
        boolean known = false;
        int cost = NONE;
        int way = NONE;
        int impossible = 0;

        void empty() {
            cost = NONE;
            way = NONE;
            impossible = 0;
        }

        void see(int w, int asked) {
            if (asked == NONE) {
                impossible++;
            } else if (way == NONE || asked > cost) {
                way = w;
                cost = asked;
            }
        }
    }

    /** What a stranger TOOK, and the WAYS that he can have had. */
    private static final class Stranger {
        int many = 0;
        private int takenBits = 0;
        private int leftBits = 0;
        int fitting = 0;
        int inAll = 0;
        int inSome = 0;
        final int[] byLane = new int[MOST_LANES];

        int empty() {
            int had = many;
            many = 0;
            takenBits = 0;
            leftBits = 0;
            return had;
        }

        boolean add(int l, int is) {
            if (many >= MOST_TOOK) {
                return false;
            }
            if (is == 1) {
                takenBits |= 1 << l;
            } else {
                leftBits |= 1 << l;
            }
            many++;
            return true;
        }

        /** The WAYS must have been measured. */
        void guess(Ways all) {
            fitting = 0;
            inAll = (1 << MOST_LANES) - 1;
            inSome = 0;
            for (int l = 0; l < MOST_LANES; l++) {
                byLane[l] = 0;
            }
            for (int w = 0; w < all.many; w++) {
                int bits = all.laneBits[w];
                boolean asTook = (bits & takenBits) == takenBits && (bits & leftBits) == 0;
                if (asTook && all.isShortest(w)) {
                    addFitting(bits);
                }
            }
        }

        private void addFitting(int bits) {
            fitting++;
            inAll &= bits;
            inSome |= bits;
            for (int l = 0; l < MOST_LANES; l++) {
                byLane[l] += bits >> l & 1;
            }
        }
    }

    /**
     * Looks for LENGTHS by which some WAYS hold. A bond says that the LANES which only such
     * a WAY has are together no longer than those which only a rival between its ends has.
     */
    private static final class Search {
        private int lanes = 0;
        private int bonds = 0;
        private int least = BEYOND_COST;
        private final int[] mine = new int[ROWS * MOST_RIVALS];
        private final int[] rivals = new int[ROWS * MOST_RIVALS];
        /**
         * For each bond, with LANES 0 .. depth - 1 chosen, how much longer mine are than the
         * rival's if all others are as good for it as they can be: above 0 it can't be kept.
         */
        private final int[][] excess = new int[MOST_LANES + 1][ROWS * MOST_RIVALS];
        private final int[] lengths = new int[MOST_LANES];
        private final int[] spades = new int[MOST_LANES];
        final int[] chosen = new int[MOST_LANES];

        void begin(Ground on, Ways all, int[] lengthsNow, long held) {
            lanes = on.lanes;
            System.arraycopy(lengthsNow, 0, lengths, 0, MOST_LANES);
            System.arraycopy(on.spades, 0, spades, 0, MOST_LANES);
            bonds = 0;
            for (int w = 0; w < all.many; w++) {
                if ((held >> w & 1) == 1) {
                    bindWay(all, w);
                }
            }
        }

        private void bindWay(Ways all, int w) {
            for (int v = 0; v < all.many; v++) {
                if (v != w && all.ends[v] == all.ends[w] && bonds < mine.length) {
                    int own = all.laneBits[w];
                    int other = all.laneBits[v];
                    mine[bonds] = own & ~other;
                    rivals[bonds] = other & ~own;
                    excess[0][bonds] = LEAST_LENGTH * Integer.bitCount(mine[bonds])
                            - MOST_LENGTH * Integer.bitCount(rivals[bonds]);
                    bonds++;
                }
            }
        }

        /** What the cheapest LENGTHS cost, or NONE. */
        int leastCost() {
            least = BEYOND_COST;
            goCheapest(this, 0, 0);
            return least == BEYOND_COST ? NONE : least;
        }

        /** Whether there are LENGTHS for at most so much; the first ones are chosen then. */
        boolean findFirst(int most) {
            return goFirst(this, 0, most);
        }

        /** Goes from the nearest LENGTH to the farthest, so that most dear ones are left out. */
        private static void goCheapest(Search of, int l, int cost) {
            if (l >= of.lanes) {
                of.least = Math.min(of.least, cost);
                return;
            }
            int low = of.lowest(l);
            int high = of.highest(l);
            for (int step = 0; step < MOST_LENGTH; step++) {
                int then = cost + step * of.spades[l];
                int shorter = of.lengths[l] - step;
                int longer = of.lengths[l] + step;
                if (shorter >= low && shorter <= high && then < of.least) {
                    of.choose(l, shorter);
                    goCheapest(of, l + 1, then);
                }
                if (step > 0 && longer >= low && longer <= high && then < of.least) {
                    of.choose(l, longer);
                    goCheapest(of, l + 1, then);
                }
            }
        }

        private static boolean goFirst(Search of, int l, int left) {
            if (l >= of.lanes) {
                return true;
            }
            int high = of.highest(l);
            for (int length = of.lowest(l); length <= high; length++) {
                int then = left - of.spades[l] * Math.abs(length - of.lengths[l]);
                if (then >= 0) {
                    of.choose(l, length);
                    if (goFirst(of, l + 1, then)) {
                        return true;
                    }
                }
            }
            return false;
        }

        private int lowest(int l) {
            int low = LEAST_LENGTH;
            for (int i = 0; i < bonds; i++) {
                if ((rivals[i] >> l & 1) == 1) {
                    low = Math.max(low, MOST_LENGTH + excess[l][i]);
                }
            }
            return low;
        }

        private int highest(int l) {
            int high = MOST_LENGTH;
            for (int i = 0; i < bonds; i++) {
                if ((mine[i] >> l & 1) == 1) {
                    high = Math.min(high, LEAST_LENGTH - excess[l][i]);
                }
            }
            return high;
        }

        private void choose(int l, int length) {
            chosen[l] = length;
            for (int i = 0; i < bonds; i++) {
                int more = 0;
                if ((mine[i] >> l & 1) == 1) {
                    more = length - LEAST_LENGTH;
                } else if ((rivals[i] >> l & 1) == 1) {
                    more = MOST_LENGTH - length;
                }
                excess[l + 1][i] = excess[l][i] + more;
            }
        }
    }

    /** THE TEXT, and how it is read. */
    private static final class Text {
        private static final int END = 0;
        private static final int NUMBER = 1;
        private static final int WRONG = 2;

        int size = 0;
        private final int[] letters = new int[MOST_LETTERS];
        /** The TOKEN that was read last: its first letter's place, its end, what it is. */
        private int start = 0;
        private int next = 0;
        private int token = END;
        private int value = 0;

        boolean add(int letter) {
            if (size >= MOST_LETTERS) {
                return false;
            }
            letters[size] = letter;
            size++;
            return true;
        }

        int empty() {
            int had = size;
            size = 0;
            return had;
        }

        /** Both must be empty: how many ITEMS are read into them, or -10 less FAULT. */
        int read(Ground on, Now told) {
            next = 0;
            step();
            int items = 0;
            while (items < MOST_LETTERS && token != END) {
                if (!readItem(on, told, items)) {
                    return FAULT_BASE - start;
                }
                items++;
                step();
            }
            return items;
        }

        private boolean readItem(Ground on, Now told, int ahead) {
            switch (token) {
                case 'n': return ahead == 0 && readPlaces(on);
                case 'l': return on.lanes < MOST_LANES && readLane(on, told);
                case 'm': return told.maps < MOST_MAPS && readMap(on, told);
                default: return false;
            }
        }

        private boolean readPlaces(Ground on) {
            if (!stepTo(FEWEST_PLACES, MOST_PLACES)) {
                return false;
            }
            on.places = value;
            return stepToEnd();
        }

        private boolean readLane(Ground on, Now told) {
            if (!stepTo(0, on.places - 1)) {
                return false;
            }
            int a = value;
            if (!stepTo(0, on.places - 1) || value == a || on.laneBetween(a, value) != NONE) {
                return false;
            }
            int b = value;
            if (!stepTo(LEAST_LENGTH, MOST_LENGTH)) {
                return false;
            }
            told.lengths[on.lanes] = value;
            if (!stepTo(LEAST_SPADES, MOST_SPADES)) {
                return false;
            }
            on.addLane(a, b, value);
            return stepToEnd();
        }

        private boolean readMap(Ground on, Now told) {
            int row = told.maps;
            told.sizes[row] = 0;
            for (int k = 0; k < MOST_PLACES; k++) {
                boolean isPlace = stepTo(0, on.places - 1);
                if (!isPlace && token == ';' && k >= 2) {
                    told.maps++;
                    return true;
                }
                if (!isPlace || !told.fits(on, row, value)) {
                    return false;
                }
                told.append(row, value);
            }
            told.maps++;
            return stepToEnd();
        }

        private boolean stepTo(int low, int high) {
            step();
            return token == NUMBER && value >= low && value <= high;
        }

        private boolean stepToEnd() {
            step();
            return token == ';';
        }

        private void step() {
            while (next < size && letters[next] == ' ') {
                next++;
            }
            start = next;
            value = 0;
            while (next < size && isDigit(letters[next])) {
                value = value > 99 ? value : value * 10 + letters[next] - '0';
                next++;
            }
            token = next > start ? numberToken() : letterToken();
        }

        private int numberToken() {
            boolean zeroAhead = next - start > 1 && letters[start] == '0';
            return zeroAhead || value > 99 ? WRONG : NUMBER;
        }

        private int letterToken() {
            if (next >= size) {
                return END;
            }
            int letter = letters[next];
            next++;
            boolean known = letter == 'n' || letter == 'l' || letter == 'm' || letter == ';';
            return known ? letter : WRONG;
        }

        private static boolean isDigit(int letter) {
            return letter >= '0' && letter <= '9';
        }
    }
}
