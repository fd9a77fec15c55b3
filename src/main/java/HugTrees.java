import java.util.Arrays;

/** Trees that hug distances; the document's numbered promises say what each call answers. */
public final class HugTrees {
    public static final int NONE = -1, UNKNOWN = -101, OUTSIDE = -102, STATE = -103, FULL = -104;

    private static final int FEWEST_POINTS = 2, MOST_POINTS = 6;
    private static final int NEAREST = 1, FARTHEST = 1000;
    private static final int NEAR = 0, EVEN = 1, A_TREES = 2;
    private static final int BY_STRETCH = 0, BY_SPREAD = 1;
    private static final int ABOVE = 0, BELOW = 1;
    private static final int MOST_SEARCHES = 60;
    // Euclid's way is done after some 20 turns for any WAY and D.
    private static final int MOST_TURNS = 64;
    // D of two pairs together: no WEIGHT is above it.
    private static final int HEAVIEST = 2 * FARTHEST;
    private static final int REST_UNKNOWN = -10101, REST_STATE = -10103;
    private static final long DIGEST_START = 197L, DIGEST_FACTOR = 31L;
    private static final int[] FACTORIALS = {1, 1, 2, 6, 24, 120, 720};

    private final Table table;
    private final SpanningTree tree;
    private final Splits splits;
    private final Lots lots;
    private int searches;

    public HugTrees() {
        table = new Table();
        tree = new SpanningTree(table);
        splits = new Splits(table);
        lots = new Lots(table);
        searches = 0;
        table.begin(FEWEST_POINTS);
    }

    // ---- the table

    public int points(int n) {
        if (n < FEWEST_POINTS || n > MOST_POINTS) {
            return OUTSIDE;
        }
        table.begin(n);
        return n;
    }

    public int set(int i, int j, int v) {
        if (!areKnown(i, j) || i == j) {
            return UNKNOWN;
        }
        if (v < NEAREST || v > FARTHEST) {
            return OUTSIDE;
        }
        int was = table.d[i][j];
        table.put(i, j, v);
        return was;
    }

    public int get(int i, int j) {
        return areKnown(i, j) ? table.d[i][j] : UNKNOWN;
    }

    public int is(int what) {
        if (what == NEAR || what == EVEN) {
            return asAnswer(table.brokenThrees(what) == 0);
        }
        if (what == A_TREES) {
            return asAnswer(isNear() && table.brokenFours() == 0);
        }
        return OUTSIDE;
    }

    public int broken(int what) {
        if (what == NEAR || what == EVEN) {
            return table.brokenThrees(what);
        }
        return what == A_TREES ? table.brokenFours() : OUTSIDE;
    }

    public int mend() {
        return table.become(table.closed(NEAR));
    }

    // ---- low

    public int low(int i, int j) {
        return areKnown(i, j) ? table.closed(EVEN)[i][j] : UNKNOWN;
    }

    public int gap() {
        return table.greatestAbove(table.closed(EVEN));
    }

    public int groups(int r) {
        return isReach(r) ? table.groupsWithin(r) : OUTSIDE;
    }

    public int lower() {
        return table.become(table.closed(EVEN));
    }

    // ---- spanning trees

    public int codes() {
        return tree.howMany();
    }

    public int joined(int code, int i, int j) {
        if (!isCode(code)) {
            return OUTSIDE;
        }
        if (!areKnown(i, j)) {
            return UNKNOWN;
        }
        tree.read(code);
        return asAnswer(tree.joins(i, j));
    }

    public int way(int code, int i, int j) {
        if (!isCode(code)) {
            return OUTSIDE;
        }
        if (!areKnown(i, j)) {
            return UNKNOWN;
        }
        tree.lay(code);
        return tree.ways[i][j];
    }

    public long stretch(int code, int part) {
        if (!isCode(code) || (part != ABOVE && part != BELOW)) {
            return OUTSIDE;
        }
        tree.lay(code);
        tree.findStretch();
        int asked = part == ABOVE ? tree.above : tree.below;
        int shared = greatestDivisor(tree.above, tree.below);
        return shared > 1 ? asked / shared : asked;
    }

    public int spread(int code) {
        if (!isCode(code)) {
            return OUTSIDE;
        }
        tree.lay(code);
        return table.sumOf(tree.ways);
    }

    public int best(int which) {
        if (which != BY_STRETCH && which != BY_SPREAD) {
            return OUTSIDE;
        }
        if (searches >= MOST_SEARCHES) {
            return FULL;
        }
        searches++;
        return which == BY_STRETCH ? tree.leastByStretch() : tree.leastBySpread();
    }

    public int grow(int code) {
        if (!isCode(code)) {
            return OUTSIDE;
        }
        tree.lay(code);
        if (table.greatestOf(tree.ways) > FARTHEST) {
            return STATE;
        }
        return table.become(tree.ways);
    }

    // ---- parts, as bits

    public int weight(int part) {
        if (!splits.isPart(part)) {
            return OUTSIDE;
        }
        return isNear() ? splits.weigh(part) : STATE;
    }

    public int parts() {
        return isNear() ? splits.howManyWeigh() : STATE;
    }

    public int rest(int i, int j) {
        if (!areKnown(i, j)) {
            return REST_UNKNOWN;
        }
        return isNear() ? splits.leftOf(i, j) : REST_STATE;
    }

    public int drawn(int i, int j, int r) {
        if (!areKnown(i, j)) {
            return UNKNOWN;
        }
        return isReach(r) ? lots.ordersThatPart(i, j, r) : OUTSIDE;
    }

    public int goes(int i, int lot, int r) {
        if (!isKnown(i)) {
            return UNKNOWN;
        }
        if (lot < 0 || lot >= lots.howMany() || !isReach(r)) {
            return OUTSIDE;
        }
        return lots.firstWithin(i, lot, r);
    }

    // ---- what is told

    public int count(int what) {
        switch (what) {
            case 0:
                return table.n;
            case 1:
                return table.sumOf(table.d);
            case 2:
                return table.greatestOf(table.d);
            case 3:
                return searches;
            default:
                return OUTSIDE;
        }
    }

    public long digest() {
        int[][] lows = table.closed(EVEN);
        long h = taken(DIGEST_START, table.n);
        for (int i = 0; i < table.n; i++) {
            for (int j = i + 1; j < table.n; j++) {
                h = taken(h, table.d[i][j]);
                h = taken(h, lows[i][j]);
            }
        }
        return taken(h, searches);
    }

    private static long taken(long h, long number) {
        return DIGEST_FACTOR * h + number;
    }

    private static int asAnswer(boolean holds) {
        return holds ? 1 : 0;
    }

    private boolean isKnown(int i) {
        return i >= 0 && i < table.n;
    }

    private boolean areKnown(int i, int j) {
        return isKnown(i) && isKnown(j);
    }

    private boolean isCode(int code) {
        return code >= 0 && code < tree.howMany();
    }

    private static boolean isReach(int r) {
        return r >= 0 && r <= FARTHEST;
    }

    private boolean isNear() {
        return table.brokenThrees(NEAR) == 0;
    }

    private static int greatestDivisor(int a, int b) {
        int greater = a;
        int lesser = b;
        for (int turn = 0; turn < MOST_TURNS && lesser > 0; turn++) {
            int left = greater % lesser;
            greater = lesser;
            lesser = left;
        }
        return greater;
    }

    /** Section 1: D of all pairs, and the tables that follow from it. */
    private static final class Table {
        private final int[][] d = new int[MOST_POINTS][MOST_POINTS];
        // One table for all answers that need one, so that no call makes a new one.
        private final int[][] made = new int[MOST_POINTS][MOST_POINTS];
        private int n;

        void begin(int points) {
            n = points;
            for (int i = 0; i < MOST_POINTS; i++) {
                Arrays.fill(d[i], NEAREST);
                d[i][i] = 0;
            }
        }

        void put(int i, int j, int v) {
            d[i][j] = v;
            d[j][i] = v;
        }

        /** How long a way of two pieces is: NEAR asks for their sum, EVEN for the greater one. */
        private static int together(int one, int other, int kind) {
            return kind == NEAR ? one + other : Math.max(one, other);
        }

        int brokenThrees(int kind) {
            int broken = 0;
            for (int i = 0; i < n; i++) {
                for (int j = i + 1; j < n; j++) {
                    broken += shorterBy(i, j, kind);
                }
            }
            return broken;
        }

        /** k may be i or j here: such a way is never shorter than D of i, j. */
        private int shorterBy(int i, int j, int kind) {
            int shorter = 0;
            for (int k = 0; k < n; k++) {
                if (d[i][j] > together(d[i][k], d[k][j], kind)) {
                    shorter++;
                }
            }
            return shorter;
        }

        int brokenFours() {
            int broken = 0;
            for (int i = 0; i < n; i++) {
                for (int j = i + 1; j < n; j++) {
                    for (int k = j + 1; k < n; k++) {
                        broken += brokenFoursFrom(i, j, k);
                    }
                }
            }
            return broken;
        }

        private int brokenFoursFrom(int i, int j, int k) {
            int broken = 0;
            for (int l = k + 1; l < n; l++) {
                if (!twoGreatestAlike(d[i][j] + d[k][l], d[i][k] + d[j][l], d[i][l] + d[j][k])) {
                    broken++;
                }
            }
            return broken;
        }

        private static boolean twoGreatestAlike(int a, int b, int c) {
            int greatest = Math.max(a, Math.max(b, c));
            return (a == b && a == greatest) || (a == c && a == greatest) || (b == c && b == greatest);
        }

        /** The least over all ways: of their sums (NEAR), of their greatest pieces (EVEN: LOW). */
        int[][] closed(int kind) {
            for (int i = 0; i < n; i++) {
                System.arraycopy(d[i], 0, made[i], 0, n);
            }
            for (int k = 0; k < n; k++) {
                shortenBy(k, kind);
            }
            return made;
        }

        private void shortenBy(int k, int kind) {
            for (int i = 0; i < n; i++) {
                for (int j = 0; j < n; j++) {
                    made[i][j] = Math.min(made[i][j], together(made[i][k], made[k][j], kind));
                }
            }
        }

        int become(int[][] other) {
            int changed = 0;
            for (int i = 0; i < n; i++) {
                for (int j = i + 1; j < n; j++) {
                    if (d[i][j] != other[i][j]) {
                        changed++;
                        put(i, j, other[i][j]);
                    }
                }
            }
            return changed;
        }

        int greatestAbove(int[][] other) {
            int greatest = 0;
            for (int i = 0; i < n; i++) {
                for (int j = i + 1; j < n; j++) {
                    greatest = Math.max(greatest, d[i][j] - other[i][j]);
                }
            }
            return greatest;
        }

        /** LOW IS EVEN, so a group is all that its least POINT reaches: those are counted. */
        int groupsWithin(int r) {
            int[][] lows = closed(EVEN);
            int groups = 0;
            for (int i = 0; i < n; i++) {
                boolean least = true;
                for (int j = 0; j < i; j++) {
                    least = least && lows[i][j] > r;
                }
                groups += asAnswer(least);
            }
            return groups;
        }

        /** Over all pairs, of D or of WAYS. */
        int sumOf(int[][] pairs) {
            int sum = 0;
            for (int i = 0; i < n; i++) {
                for (int j = i + 1; j < n; j++) {
                    sum += pairs[i][j];
                }
            }
            return sum;
        }

        int greatestOf(int[][] pairs) {
            int greatest = 0;
            for (int i = 0; i < n; i++) {
                for (int j = i + 1; j < n; j++) {
                    greatest = Math.max(greatest, pairs[i][j]);
                }
            }
            return greatest;
        }
    }

    /** Section 2: the SPANNING TREE of the CODE that was read last. */
    private static final class SpanningTree {
        private final Table table;
        // JOIN number s is of gone[s] and kept[s]; gone[s] is in no later JOIN.
        private final int[] gone = new int[MOST_POINTS];
        private final int[] kept = new int[MOST_POINTS];
        private final int[] hangs = new int[MOST_POINTS];
        private final int[][] ways = new int[MOST_POINTS][MOST_POINTS];
        private int above = 1;
        private int below = 1;

        SpanningTree(Table table) {
            this.table = table;
        }

        int howMany() {
            int many = 1;
            for (int figure = 0; figure < table.n - 2; figure++) {
                many *= table.n;
            }
            return many;
        }

        /** Finds the JOINS alone. */
        void read(int code) {
            int last = table.n - 2;
            readFigures(code);
            for (int s = 0; s < last; s++) {
                gone[s] = takeLeast();
                hangs[kept[s]]--;
            }
            gone[last] = takeLeast();
            kept[last] = takeLeast();
        }

        private void readFigures(int code) {
            Arrays.fill(hangs, 1);
            int base = table.n;
            int left = code;
            // For two POINTS there is no figure, so base is 3 at least where it divides.
            for (int s = base - 3; s >= 0; s--) {
                kept[s] = left % base;
                left /= base;
                hangs[kept[s]]++;
            }
        }

        /** Takes out the least POINT that hangs on one JOIN alone. */
        private int takeLeast() {
            int point = 0;
            while (point < table.n - 1 && hangs[point] != 1) {
                point++;
            }
            hangs[point] = 0;
            return point;
        }

        boolean joins(int i, int j) {
            boolean found = false;
            for (int s = 0; s < table.n - 1; s++) {
                found = found || (gone[s] == i && kept[s] == j) || (gone[s] == j && kept[s] == i);
            }
            return found;
        }

        /** Finds the JOINS, and the WAYS from them. */
        void lay(int code) {
            read(code);
            int last = table.n - 2;
            ways[kept[last]][kept[last]] = 0;
            // From the last JOIN back, each one hangs a new POINT on what is laid already.
            for (int s = last; s >= 0; s--) {
                ways[gone[s]][gone[s]] = 0;
                layWay(s, kept[last]);
                for (int later = s + 1; later <= last; later++) {
                    layWay(s, gone[later]);
                }
            }
        }

        private void layWay(int s, int to) {
            int from = gone[s];
            int way = table.d[from][kept[s]] + ways[kept[s]][to];
            ways[from][to] = way;
            ways[to][from] = way;
        }

        /** Leaves it in above and below, not in lowest terms. */
        void findStretch() {
            // Joined POINTS are stretched by just 1, so no STRETCH is less.
            above = 1;
            below = 1;
            for (int i = 0; i < table.n; i++) {
                for (int j = i + 1; j < table.n; j++) {
                    if (ways[i][j] * below > above * table.d[i][j]) {
                        above = ways[i][j];
                        below = table.d[i][j];
                    }
                }
            }
        }

        int leastByStretch() {
            int least = 0;
            int leastAbove = 0;
            int leastBelow = 0;
            int many = howMany();
            for (int code = 0; code < many; code++) {
                lay(code);
                findStretch();
                if (code == 0 || above * leastBelow < leastAbove * below) {
                    least = code;
                    leastAbove = above;
                    leastBelow = below;
                }
            }
            return least;
        }

        int leastBySpread() {
            int least = 0;
            int leastSum = 0;
            int many = howMany();
            for (int code = 0; code < many; code++) {
                lay(code);
                int sum = table.sumOf(ways);
                if (code == 0 || sum < leastSum) {
                    least = code;
                    leastSum = sum;
                }
            }
            return least;
        }
    }

    /** Section 3: PARTS; a PART has bit i if POINT i is in it. */
    private static final class Splits {
        private final Table table;

        Splits(Table table) {
            this.table = table;
        }

        private int allPoints() {
            return (1 << table.n) - 1;
        }

        private static boolean isIn(int part, int i) {
            return ((part >> i) & 1) == 1;
        }

        boolean isPart(int part) {
            return part > 0 && part < allPoints() && isIn(part, 0);
        }

        /** i, j and k, l are taken once each: the other way round the SUMS are the same. */
        int weigh(int part) {
            int least = HEAVIEST;
            for (int i = 0; i < table.n; i++) {
                for (int j = i; j < table.n; j++) {
                    if (isIn(part, i) && isIn(part, j)) {
                        least = Math.min(least, leastAcross(part, i, j));
                    }
                }
            }
            return least;
        }

        private int leastAcross(int part, int i, int j) {
            int least = HEAVIEST;
            for (int k = 0; k < table.n; k++) {
                for (int l = k; l < table.n; l++) {
                    if (!isIn(part, k) && !isIn(part, l)) {
                        least = Math.min(least, across(i, j, k, l));
                    }
                }
            }
            return least;
        }

        private int across(int i, int j, int k, int l) {
            int[][] d = table.d;
            int within = d[i][j] + d[k][l];
            int straight = d[i][k] + d[j][l];
            int crossed = d[i][l] + d[j][k];
            return Math.max(within, Math.max(straight, crossed)) - within;
        }

        int howManyWeigh() {
            int many = 0;
            for (int part = 1; part < allPoints(); part += 2) {
                many += asAnswer(weigh(part) > 0);
            }
            return many;
        }

        /** THE REST. */
        int leftOf(int i, int j) {
            int left = 2 * table.d[i][j];
            for (int part = 1; part < allPoints(); part += 2) {
                if (isIn(part, i) != isIn(part, j)) {
                    left -= weigh(part);
                }
            }
            return left;
        }
    }

    /** Section 3: what is DRAWN by ORDERS. */
    private static final class Lots {
        private final Table table;

        Lots(Table table) {
            this.table = table;
        }

        int howMany() {
            return FACTORIALS[table.n];
        }

        /**
         * The first in the ORDER of all that i or j reaches decides: both go to it if both reach
         * it, else they are PARTED; and each of those is the first one in equally many ORDERS.
         */
        int ordersThatPart(int i, int j, int r) {
            int either = Integer.bitCount(reached(i, r) | reached(j, r));
            int justOne = Integer.bitCount(reached(i, r) ^ reached(j, r));
            return either > 0 ? howMany() / either * justOne : 0;
        }

        private int reached(int i, int r) {
            int bits = 0;
            for (int k = 0; k < table.n; k++) {
                if (table.d[i][k] <= r) {
                    bits |= 1 << k;
                }
            }
            return bits;
        }

        /** Deals the ORDER of the lot POINT by POINT until i reaches one; it reaches itself. */
        int firstWithin(int i, int lot, int r) {
            int undealt = (1 << table.n) - 1;
            int left = lot;
            for (int more = table.n - 1; more >= 0; more--) {
                // So many lots begin with each undealt POINT.
                int each = FACTORIALS[more];
                int point = nextDealt(undealt, left, each);
                if (table.d[i][point] <= r) {
                    return point;
                }
                left -= each * Integer.bitCount(undealt & ((1 << point) - 1));
                undealt &= ~(1 << point);
            }
            return i;
        }

        /** The undealt POINT among whose lots is the one that has so many before it. */
        private int nextDealt(int undealt, int before, int each) {
            int left = before;
            for (int k = 0; k < table.n; k++) {
                if (((undealt >> k) & 1) == 1) {
                    if (left < each) {
                        return k;
                    }
                    left -= each;
                }
            }
            return 0;
        }
    }
}
