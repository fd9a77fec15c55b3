import java.util.function.Supplier;

/** Promises 8 to 11: what is least, greatest, just beyond, empty or refused. */
public final class LowEdgeTest {
    private static final Edge EDGE = new Edge();
    private static final int UNKNOWN = HugTrees.UNKNOWN, OUTSIDE = HugTrees.OUTSIDE;

    public static void main(String[] args) {
        lowOfOneWithItself();
        lowOfFirstAndLast();
        lowUpToTheGreater();
        lowOfNoPointIsUnknown();
        gapFromNoneToMost();
        groupsFromZeroToAThousand();
        groupsAtLowAndJustBelow();
        groupsBeyondAreOutside();
        lowerOfNoneAndOfMost();
        EDGE.finish();
    }

    /** A chain 0 1 2 3 4 5 of 10, 20, 30, 20, 10; all else is 900. */
    private static Supplier<HugTrees> chain() {
        return Edge.of(6, 10, 900, 900, 900, 900, 20, 900, 900, 900, 30, 900, 900, 20, 900, 10);
    }

    private static void lowOfOneWithItself() {
        for (int n = 2; n <= 6; n++) {
            for (int i = 0; i < n; i++) {
                int same = i;
                EDGE.keeps(n + " POINTS, 8: low(" + i + ", " + i + ")", Edge.alike(n, 9), x -> x.low(same, same), 0);
            }
        }
    }

    private static void lowOfFirstAndLast() {
        for (int n = 2; n <= 6; n++) {
            int last = n - 1;
            EDGE.keeps(n + " POINTS, 8: the greatest LOW", Edge.alike(n, 1000), x -> x.low(0, last), 1000);
            EDGE.keeps(n + " POINTS, 8: the least LOW", Edge.alike(n, 1), x -> x.low(last, 0), 1);
        }
        EDGE.keeps("8: by all POINTS", chain(), x -> x.low(0, 5), 30);
        EDGE.keeps("8: by all POINTS, back", chain(), x -> x.low(5, 0), 30);
    }

    private static void lowUpToTheGreater() {
        EDGE.keeps("8: D alike the greater one of a way", Edge.of(3, 3, 4, 4), x -> x.low(1, 2), 4);
        EDGE.keeps("8: D one above the greater one of a way", Edge.of(3, 3, 4, 5), x -> x.low(1, 2), 4);
        EDGE.keeps("8: D one below the greater one of a way", Edge.of(3, 3, 5, 4), x -> x.low(1, 2), 4);
    }

    private static void lowOfNoPointIsUnknown() {
        for (int n = 2; n <= 6; n++) {
            for (int k : Edge.noPoints(n)) {
                String edge = n + " POINTS, 8: low, no POINT " + k;
                EDGE.keeps(edge + " as i", Edge.alike(n, 9), x -> x.low(k, 0), UNKNOWN);
                EDGE.keeps(edge + " as j", Edge.alike(n, 9), x -> x.low(0, k), UNKNOWN);
                EDGE.keeps(edge + " as both", Edge.alike(n, 9), x -> x.low(k, k), UNKNOWN);
            }
        }
    }

    private static void gapFromNoneToMost() {
        for (int n = 2; n <= 6; n++) {
            EDGE.keeps(n + " POINTS, 9: no gap", Edge.alike(n, 1000), HugTrees::gap, 0);
        }
        EDGE.keeps("9: no gap of what IS EVEN", Edge.of(3, 3, 4, 4), HugTrees::gap, 0);
        EDGE.keeps("9: the least gap", Edge.of(3, 3, 4, 5), HugTrees::gap, 1);
        EDGE.keeps("9: the greatest gap, of the first pair", Edge.of(3, 1000, 1, 1), HugTrees::gap, 999);
        EDGE.keeps("9: the greatest gap, of the last pair", Edge.of(3, 1, 1, 1000), HugTrees::gap, 999);
    }

    private static void groupsFromZeroToAThousand() {
        for (int n = 2; n <= 6; n++) {
            EDGE.keeps(n + " POINTS, 10: groups(0), the least", Edge.alike(n, 1), x -> x.groups(0), n);
            EDGE.keeps(n + " POINTS, 10: groups(1)", Edge.alike(n, 1), x -> x.groups(1), 1);
            EDGE.keeps(n + " POINTS, 10: groups(999)", Edge.alike(n, 1000), x -> x.groups(999), n);
            EDGE.keeps(n + " POINTS, 10: groups(1000), the greatest", Edge.alike(n, 1000), x -> x.groups(1000), 1);
        }
    }

    private static void groupsAtLowAndJustBelow() {
        int[][] want = {{9, 6}, {10, 4}, {11, 4}, {19, 4}, {20, 2}, {29, 2}, {30, 1}, {31, 1}};
        for (int[] row : want) {
            EDGE.keeps("10: groups(" + row[0] + ")", chain(), x -> x.groups(row[0]), row[1]);
        }
        EDGE.keeps("10: two far ones, each near a third", Edge.of(3, 9, 1, 1), x -> x.groups(1), 1);
    }

    private static void groupsBeyondAreOutside() {
        for (int r : Edge.beyond(0, 1000)) {
            EDGE.keeps("10: groups(" + r + ")", chain(), x -> x.groups(r), OUTSIDE);
            EDGE.keeps("10: groups(" + r + ") of a new object", HugTrees::new, x -> x.groups(r), OUTSIDE);
        }
    }

    private static void lowerOfNoneAndOfMost() {
        EDGE.changes("11: lower() of two", Edge.alike(2, 1000), HugTrees::lower, 0, Edge.alike(2, 1000));
        EDGE.changes("11: D alike LOW changes no pair", Edge.of(3, 3, 4, 4), HugTrees::lower, 0, Edge.of(3, 3, 4, 4));
        EDGE.changes("11: D one above LOW changes it", Edge.of(3, 3, 4, 5), HugTrees::lower, 1, Edge.of(3, 3, 4, 4));
        EDGE.changes("11: all pairs but a chain", chain(), HugTrees::lower, 10,
                Edge.of(6, 10, 20, 30, 30, 30, 20, 30, 30, 30, 30, 30, 30, 20, 20, 10));
        EDGE.changes("11: lower() after best() was done 60 times", Edge.searched(Edge.of(3, 3, 4, 5), 60),
                HugTrees::lower, 1, Edge.of(3, 3, 4, 4));
    }
}
