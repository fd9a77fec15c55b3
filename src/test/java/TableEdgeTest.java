import java.util.function.Supplier;

/** Promises 1 to 7: what is least, greatest, just beyond, empty or refused. */
public final class TableEdgeTest {
    private static final Edge EDGE = new Edge();
    private static final int UNKNOWN = HugTrees.UNKNOWN, OUTSIDE = HugTrees.OUTSIDE;

    public static void main(String[] args) {
        aNewObjectHasTwoPoints();
        twoObjectsAreApart();
        pointsFromTwoToSix();
        pointsBeyondAreOutside();
        pointsKeepsHowOftenBestWasDone();
        setFromOneToAThousand();
        setOfFirstAndLastPoint();
        setOfNoPointIsUnknown();
        setOfOnePointIsUnknown();
        setBeyondIsOutside();
        setTellsUnknownFirst();
        getOfOneWithItself();
        getOfNoPointIsUnknown();
        isAsksFromZeroToTwo();
        isOfTooFewPoints();
        nearUpToTheSum();
        evenUpToTheGreater();
        aTreesOnlyIfSumsAreAlike();
        aTreesOnlyIfNear();
        brokenAsksFromZeroToTwo();
        brokenOfNoneAndOfAll();
        mendOfNoneAndOfMost();
        EDGE.finish();
    }

    /** Not NEAR, all D unlike. */
    private static Supplier<HugTrees> four() {
        return Edge.of(4, 2, 40, 10, 6, 3, 5);
    }

    private static void aNewObjectHasTwoPoints() {
        EDGE.keeps("1: two POINTS", HugTrees::new, x -> x.count(0), 2);
        EDGE.keeps("1: D of them is 1 at first", HugTrees::new, x -> x.get(0, 1), 1);
        EDGE.keeps("1: D of one with itself is 0", HugTrees::new, x -> x.get(1, 1), 0);
        EDGE.keeps("1: no third POINT", HugTrees::new, x -> x.get(0, 2), UNKNOWN);
        EDGE.keeps("1: best() was not done", HugTrees::new, x -> x.count(3), 0);
        EDGE.changes("1: it is as after points(2)", HugTrees::new, x -> x.points(2), 2, HugTrees::new);
    }

    private static void twoObjectsAreApart() {
        EDGE.keeps("1: another object's table is its own", Edge.alike(3, 7), x -> {
            HugTrees other = new HugTrees();
            other.points(6);
            other.set(0, 1, 900);
            other.best(0);
            return x.get(0, 1);
        }, 7);
    }

    private static void pointsFromTwoToSix() {
        for (int n = 2; n <= 6; n++) {
            int asked = n;
            String edge = "2: points(" + n + ")";
            EDGE.changes(edge + " of fewer", Edge.alike(2, 1000), x -> x.points(asked), n, Edge.alike(n, 1));
            EDGE.changes(edge + " of most", Edge.alike(6, 1000), x -> x.points(asked), n, Edge.alike(n, 1));
            EDGE.changes(edge + " of as many", Edge.alike(n, 1000), x -> x.points(asked), n, Edge.alike(n, 1));
            EDGE.changes(edge + " after six, then two", Edge.alike(6, 1000), x -> {
                x.points(2);
                return x.points(asked);
            }, n, Edge.alike(n, 1));
        }
    }

    private static void pointsBeyondAreOutside() {
        for (int n : Edge.beyond(2, 6)) {
            EDGE.keeps("2: points(" + n + ")", four(), x -> x.points(n), OUTSIDE);
            EDGE.keeps("2: points(" + n + ") of a new object", HugTrees::new, x -> x.points(n), OUTSIDE);
        }
        EDGE.keeps("2: points(-1)", four(), x -> x.points(-1), OUTSIDE);
    }

    private static void pointsKeepsHowOftenBestWasDone() {
        EDGE.changes("2: points() after best() was done 60 times", Edge.searched(four(), 60), x -> x.points(3), 3,
                Edge.alike(3, 1));
    }

    private static void setFromOneToAThousand() {
        EDGE.changes("3: D becomes 1, the least", Edge.alike(3, 1000), x -> x.set(0, 1, 1), 1000,
                Edge.of(3, 1, 1000, 1000));
        EDGE.changes("3: D becomes 1000, the greatest", Edge.alike(3, 1), x -> x.set(1, 2, 1000), 1,
                Edge.of(3, 1, 1, 1000));
        EDGE.changes("3: D becomes what it was", Edge.alike(3, 8), x -> x.set(0, 2, 8), 8, Edge.alike(3, 8));
        EDGE.changes("3: the other way round", Edge.of(3, 4, 5, 6), x -> x.set(2, 0, 9), 5, Edge.of(3, 4, 9, 6));
    }

    private static void setOfFirstAndLastPoint() {
        for (int n = 2; n <= 6; n++) {
            int last = n - 1;
            int[] becomes = Edge.pairs(n, 3);
            becomes[n - 2] = 77;
            EDGE.changes(n + " POINTS, 3: set(0, " + last + ", 77)", Edge.alike(n, 3), x -> x.set(0, last, 77), 3,
                    Edge.of(n, becomes));
            EDGE.changes(n + " POINTS, 3: set(" + last + ", 0, 77)", Edge.alike(n, 3), x -> x.set(last, 0, 77), 3,
                    Edge.of(n, becomes));
        }
    }

    private static void setOfNoPointIsUnknown() {
        for (int n = 2; n <= 6; n++) {
            for (int k : Edge.noPoints(n)) {
                String edge = n + " POINTS, 3: set, no POINT " + k;
                EDGE.keeps(edge + " as i", Edge.alike(n, 9), x -> x.set(k, 0, 5), UNKNOWN);
                EDGE.keeps(edge + " as j", Edge.alike(n, 9), x -> x.set(0, k, 5), UNKNOWN);
                EDGE.keeps(edge + " as both", Edge.alike(n, 9), x -> x.set(k, k, 5), UNKNOWN);
            }
        }
    }

    private static void setOfOnePointIsUnknown() {
        for (int i = 0; i < 4; i++) {
            int same = i;
            EDGE.keeps("3: set(" + i + ", " + i + ", 5)", four(), x -> x.set(same, same, 5), UNKNOWN);
            EDGE.keeps("3: set(" + i + ", " + i + ", 0)", four(), x -> x.set(same, same, 0), UNKNOWN);
        }
    }

    private static void setBeyondIsOutside() {
        for (int v : Edge.beyond(1, 1000)) {
            EDGE.keeps("3: set(0, 1, " + v + ")", four(), x -> x.set(0, 1, v), OUTSIDE);
            EDGE.keeps("3: set(3, 2, " + v + ")", four(), x -> x.set(3, 2, v), OUTSIDE);
        }
    }

    private static void setTellsUnknownFirst() {
        for (int v : Edge.beyond(1, 1000)) {
            EDGE.keeps("3: no POINT as i, and " + v, four(), x -> x.set(4, 0, v), UNKNOWN);
            EDGE.keeps("3: no POINT as j, and " + v, four(), x -> x.set(0, -1, v), UNKNOWN);
            EDGE.keeps("3: one POINT twice, and " + v, four(), x -> x.set(2, 2, v), UNKNOWN);
        }
    }

    private static void getOfOneWithItself() {
        for (int n = 2; n <= 6; n++) {
            for (int i = 0; i < n; i++) {
                int same = i;
                EDGE.keeps(n + " POINTS, 4: get(" + i + ", " + i + ")", Edge.alike(n, 9), x -> x.get(same, same), 0);
            }
            int last = n - 1;
            EDGE.keeps(n + " POINTS, 4: get of first and last", Edge.alike(n, 1000), x -> x.get(0, last), 1000);
            EDGE.keeps(n + " POINTS, 4: get of last and first", Edge.alike(n, 1), x -> x.get(last, 0), 1);
        }
    }

    private static void getOfNoPointIsUnknown() {
        for (int n = 2; n <= 6; n++) {
            for (int k : Edge.noPoints(n)) {
                String edge = n + " POINTS, 4: get, no POINT " + k;
                EDGE.keeps(edge + " as i", Edge.alike(n, 9), x -> x.get(k, 1), UNKNOWN);
                EDGE.keeps(edge + " as j", Edge.alike(n, 9), x -> x.get(1, k), UNKNOWN);
                EDGE.keeps(edge + " as both", Edge.alike(n, 9), x -> x.get(k, k), UNKNOWN);
            }
        }
    }

    private static void isAsksFromZeroToTwo() {
        for (int what = 0; what <= 2; what++) {
            int asked = what;
            EDGE.keeps("5: is(" + what + ") of like ones", Edge.alike(6, 1000), x -> x.is(asked), 1);
            EDGE.keeps("5: is(" + what + ") of no such one", four(), x -> x.is(asked), 0);
        }
        for (int what : Edge.beyond(0, 2)) {
            EDGE.keeps("5: is(" + what + ")", four(), x -> x.is(what), OUTSIDE);
            EDGE.keeps("5: is(" + what + ") of like ones", Edge.alike(2, 4), x -> x.is(what), OUTSIDE);
        }
    }

    /** Two POINTS have no three, and three POINTS no four. */
    private static void isOfTooFewPoints() {
        for (int what = 0; what <= 2; what++) {
            int asked = what;
            EDGE.keeps("5: is(" + what + ") of two", Edge.alike(2, 1000), x -> x.is(asked), 1);
            EDGE.keeps("6: broken(" + what + ") of two", Edge.alike(2, 1000), x -> x.broken(asked), 0);
        }
        EDGE.keeps("5: is(2) of three that are NEAR", Edge.of(3, 3, 4, 7), x -> x.is(2), 1);
        EDGE.keeps("6: broken(2) of three", Edge.of(3, 1, 1, 1000), x -> x.broken(2), 0);
    }

    private static void nearUpToTheSum() {
        EDGE.keeps("5: D of 0 1 alike the sum", Edge.of(3, 7, 3, 4), x -> x.is(0), 1);
        EDGE.keeps("5: D of 0 1 one above the sum", Edge.of(3, 8, 3, 4), x -> x.is(0), 0);
        EDGE.keeps("5: D of 0 2 alike the sum", Edge.of(3, 3, 7, 4), x -> x.is(0), 1);
        EDGE.keeps("5: D of 0 2 one above the sum", Edge.of(3, 3, 8, 4), x -> x.is(0), 0);
        EDGE.keeps("5: D of 1 2 alike the sum", Edge.of(3, 3, 4, 7), x -> x.is(0), 1);
        EDGE.keeps("5: D of 1 2 one above the sum", Edge.of(3, 3, 4, 8), x -> x.is(0), 0);
        EDGE.keeps("6: alike the sum", Edge.of(3, 3, 4, 7), x -> x.broken(0), 0);
        EDGE.keeps("6: one above the sum", Edge.of(3, 3, 4, 8), x -> x.broken(0), 1);
        EDGE.keeps("5: the greatest D alike the sum", Edge.of(3, 1000, 1, 999), x -> x.is(0), 1);
        EDGE.keeps("5: the greatest D one above the sum", Edge.of(3, 1000, 1, 998), x -> x.is(0), 0);
    }

    private static void evenUpToTheGreater() {
        EDGE.keeps("5: D of 0 1 alike the greater one", Edge.of(3, 4, 3, 4), x -> x.is(1), 1);
        EDGE.keeps("5: D of 0 1 one above the greater one", Edge.of(3, 5, 3, 4), x -> x.is(1), 0);
        EDGE.keeps("5: D of 0 2 alike the greater one", Edge.of(3, 4, 4, 3), x -> x.is(1), 1);
        EDGE.keeps("5: D of 0 2 one above the greater one", Edge.of(3, 4, 5, 3), x -> x.is(1), 0);
        EDGE.keeps("5: D of 1 2 alike the greater one", Edge.of(3, 3, 4, 4), x -> x.is(1), 1);
        EDGE.keeps("5: D of 1 2 one above the greater one", Edge.of(3, 3, 4, 5), x -> x.is(1), 0);
        EDGE.keeps("6: alike the greater one", Edge.of(3, 3, 4, 4), x -> x.broken(1), 0);
        EDGE.keeps("6: one above the greater one", Edge.of(3, 3, 4, 5), x -> x.broken(1), 1);
    }

    /** The SUMS are D01 + D23, D02 + D13, D03 + D12. */
    private static void aTreesOnlyIfSumsAreAlike() {
        dueFour("all three alike", 1, Edge.of(4, 4, 5, 6, 4, 5, 6));
        dueFour("first and second greatest and alike", 1, Edge.of(4, 5, 5, 5, 4, 5, 5));
        dueFour("first and third greatest and alike", 1, Edge.of(4, 5, 5, 5, 5, 4, 5));
        dueFour("second and third greatest and alike", 1, Edge.of(4, 5, 5, 5, 5, 5, 4));
        dueFour("first one above, others alike", 0, Edge.of(4, 5, 5, 5, 5, 5, 6));
        dueFour("second one above, others alike", 0, Edge.of(4, 5, 5, 5, 5, 6, 5));
        dueFour("third one above, others alike", 0, Edge.of(4, 5, 5, 5, 6, 5, 5));
        dueFour("first, second, third one above another", 0, Edge.of(4, 7, 6, 5, 5, 5, 5));
        dueFour("third, second, first one above another", 0, Edge.of(4, 5, 6, 7, 5, 5, 5));
        dueFour("second, first, third one above another", 0, Edge.of(4, 6, 7, 5, 5, 5, 5));
    }

    private static void dueFour(String sums, int want, Supplier<HugTrees> made) {
        EDGE.keeps("5: " + sums, made, x -> x.is(2), want);
        EDGE.keeps("6: " + sums, made, x -> x.broken(2), 1 - want);
    }

    private static void aTreesOnlyIfNear() {
        EDGE.keeps("5: three that are not NEAR", Edge.of(3, 3, 4, 8), x -> x.is(2), 0);
        Supplier<HugTrees> alikeNotNear = Edge.of(4, 10, 1, 10, 1, 10, 1);
        EDGE.keeps("6: SUMS alike, not NEAR", alikeNotNear, x -> x.broken(2), 0);
        EDGE.keeps("5: SUMS alike, not NEAR", alikeNotNear, x -> x.is(2), 0);
    }

    private static void brokenAsksFromZeroToTwo() {
        for (int what : Edge.beyond(0, 2)) {
            EDGE.keeps("6: broken(" + what + ")", four(), x -> x.broken(what), OUTSIDE);
            EDGE.keeps("6: broken(" + what + ") of like ones", Edge.alike(2, 4), x -> x.broken(what), OUTSIDE);
        }
        EDGE.keeps("6: broken(0)", four(), x -> x.broken(0), 3);
        EDGE.keeps("6: broken(1)", four(), x -> x.broken(1), 4);
        EDGE.keeps("6: broken(2)", four(), x -> x.broken(2), 1);
    }

    private static void brokenOfNoneAndOfAll() {
        // D is the square of j - i: of any three the widest pair is above the sum.
        Supplier<HugTrees> squares = Edge.of(6, 1, 4, 9, 16, 25, 1, 4, 9, 16, 1, 4, 9, 1, 4, 1);
        EDGE.keeps("6: broken(0) of each three", squares, x -> x.broken(0), 20);
        EDGE.keeps("6: broken(1) of each three", squares, x -> x.broken(1), 20);
        EDGE.keeps("6: broken(2) of each four", squares, x -> x.broken(2), 15);
        for (int what = 0; what <= 2; what++) {
            int asked = what;
            EDGE.keeps("6: broken(" + what + ") of none", Edge.alike(6, 1), x -> x.broken(asked), 0);
        }
        EDGE.keeps("6: one pair by each of four others", Edge.of(6, 3, 1, 1, 1, 1, 1, 1, 1, 1, 1, 1, 1, 1, 1, 1),
                x -> x.broken(0), 4);
    }

    private static void mendOfNoneAndOfMost() {
        EDGE.changes("7: mend() of two", Edge.alike(2, 1000), HugTrees::mend, 0, Edge.alike(2, 1000));
        EDGE.changes("7: a way alike D changes no pair", Edge.of(3, 3, 4, 7), HugTrees::mend, 0, Edge.of(3, 3, 4, 7));
        EDGE.changes("7: a way one below D changes it", Edge.of(3, 3, 4, 8), HugTrees::mend, 1, Edge.of(3, 3, 4, 7));
        EDGE.changes("7: the greatest D alike its way", Edge.of(3, 1000, 400, 600), HugTrees::mend, 0,
                Edge.of(3, 1000, 400, 600));
        EDGE.changes("7: all pairs but a chain", Edge.of(6, 1, 900, 900, 900, 900, 1, 900, 900, 900, 1, 900, 900, 1,
                900, 1), HugTrees::mend, 10, Edge.of(6, 1, 2, 3, 4, 5, 1, 2, 3, 4, 1, 2, 3, 1, 2, 1));
        EDGE.changes("7: mend() after best() was done 60 times", Edge.searched(Edge.of(3, 3, 4, 8), 60),
                HugTrees::mend, 1, Edge.of(3, 3, 4, 7));
    }
}
