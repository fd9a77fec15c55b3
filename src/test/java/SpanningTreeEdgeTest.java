import java.util.Arrays;
import java.util.function.Supplier;

/** Promises 12 to 18: what is least, greatest, just beyond, empty or refused. */
public final class SpanningTreeEdgeTest {
    private static final Edge EDGE = new Edge();
    private static final int UNKNOWN = HugTrees.UNKNOWN, OUTSIDE = HugTrees.OUTSIDE;
    private static final int STATE = HugTrees.STATE, FULL = HugTrees.FULL;
    /** CODE 1 2 3 4 of six POINTS: the chain 0 1 2 3 4 5. */
    private static final int CHAIN = 1 * 216 + 2 * 36 + 3 * 6 + 4;

    public static void main(String[] args) {
        codesFromTwoToSixPoints();
        theLeastAndTheGreatestCode();
        ofNoCodeIsOutside();
        joinedAndWayOfNoPointAreUnknown();
        joinedAndWayTellOutsideFirst();
        joinedAndWayOfOneWithItself();
        wayFromLeastToGreatest();
        stretchPartsZeroAndOne();
        stretchPartsBeyondAreOutside();
        stretchOfNoCodeAndNoPart();
        stretchFromLeastToGreatest();
        stretchInLowestTerms();
        spreadFromLeastToGreatest();
        bestOfLikeOnesIsTheLeastCode();
        bestAndClosestMayBeUnlike();
        bestMayBeTheGreatestCode();
        bestAsksZeroAndOne();
        bestIsFullAfterSixtyTimes();
        bestTellsOutsideFirst();
        bestRefusedIsNotDone();
        growUpToAThousand();
        growTellsOutsideFirst();
        growOfNoneAndOfMost();
        EDGE.finish();
    }

    /** All D unlike. */
    private static Supplier<HugTrees> four() {
        return Edge.of(4, 2, 4, 10, 6, 3, 5);
    }

    /** D of two behind one another on the chain is joined, of all others apart. */
    private static Supplier<HugTrees> chain(int joined, int apart) {
        int[] d = Edge.pairs(6, apart);
        for (int pair : new int[] {0, 5, 9, 12, 14}) {
            d[pair] = joined;
        }
        return Edge.of(6, d);
    }

    private static int[] noCodes(int n) {
        int[] beyond = Edge.beyond(0, Edge.codes(n) - 1);
        int[] all = Arrays.copyOf(beyond, beyond.length + 1);
        all[beyond.length] = 1296;
        return all;
    }

    private static void codesFromTwoToSixPoints() {
        int[] want = {1, 3, 16, 125, 1296};
        for (int n = 2; n <= 6; n++) {
            EDGE.keeps(n + " POINTS, 12: codes()", Edge.alike(n, 5), HugTrees::codes, want[n - 2]);
        }
    }

    /** CODE 0 joins all with POINT 0, the greatest one all with the last POINT. */
    private static void theLeastAndTheGreatestCode() {
        for (int n = 2; n <= 6; n++) {
            int most = Edge.codes(n) - 1;
            int last = n - 1;
            String edge = n + " POINTS, ";
            Supplier<HugTrees> made = Edge.alike(n, 5);
            EDGE.keeps(edge + "13: joined, CODE 0", made, x -> x.joined(0, 0, last), 1);
            EDGE.keeps(edge + "13: joined, CODE " + most, made, x -> x.joined(most, last, 0), 1);
            EDGE.keeps(edge + "14: way, CODE 0", made, x -> x.way(0, last, 0), 5);
            EDGE.keeps(edge + "14: way, CODE " + most, made, x -> x.way(most, 0, last), 5);
            EDGE.keeps(edge + "15: stretch, CODE 0", made, x -> x.stretch(0, 0), n == 2 ? 1 : 2);
            EDGE.keeps(edge + "15: stretch, CODE " + most, made, x -> x.stretch(most, 0), n == 2 ? 1 : 2);
            EDGE.keeps(edge + "16: spread, CODE 0", made, x -> x.spread(0), 5 * last * last);
            EDGE.keeps(edge + "16: spread, CODE " + most, made, x -> x.spread(most), 5 * last * last);
            int grown = last * (last - 1) / 2;
            int[] byFirst = Edge.pairs(n, 10);
            int[] byLast = Edge.pairs(n, 10);
            Arrays.fill(byFirst, 0, last, 5);
            for (int i = 0, pair = -1; i < last; i++) {
                pair += last - i;
                byLast[pair] = 5;
            }
            EDGE.changes(edge + "18: grow(0)", made, x -> x.grow(0), grown, Edge.of(n, byFirst));
            EDGE.changes(edge + "18: grow(" + most + ")", made, x -> x.grow(most), grown, Edge.of(n, byLast));
        }
    }

    private static void ofNoCodeIsOutside() {
        for (int n = 2; n <= 6; n++) {
            Supplier<HugTrees> made = Edge.alike(n, 5);
            for (int code : n == 6 ? Edge.beyond(0, 1295) : noCodes(n)) {
                String edge = n + " POINTS, no CODE " + code;
                EDGE.keeps(edge + ", 13: joined", made, x -> x.joined(code, 0, 1), OUTSIDE);
                EDGE.keeps(edge + ", 14: way", made, x -> x.way(code, 0, 1), OUTSIDE);
                EDGE.keeps(edge + ", 15: stretch above", made, x -> x.stretch(code, 0), -102L);
                EDGE.keeps(edge + ", 15: stretch below", made, x -> x.stretch(code, 1), -102L);
                EDGE.keeps(edge + ", 16: spread", made, x -> x.spread(code), OUTSIDE);
                EDGE.keeps(edge + ", 18: grow", made, x -> x.grow(code), OUTSIDE);
            }
        }
    }

    private static void joinedAndWayOfNoPointAreUnknown() {
        for (int n = 2; n <= 6; n++) {
            int code = Edge.codes(n) - 1;
            Supplier<HugTrees> made = Edge.alike(n, 5);
            for (int k : Edge.noPoints(n)) {
                String edge = n + " POINTS, no POINT " + k;
                EDGE.keeps(edge + " as i, 13: joined", made, x -> x.joined(code, k, 0), UNKNOWN);
                EDGE.keeps(edge + " as j, 13: joined", made, x -> x.joined(code, 0, k), UNKNOWN);
                EDGE.keeps(edge + " as both, 13: joined", made, x -> x.joined(code, k, k), UNKNOWN);
                EDGE.keeps(edge + " as i, 14: way", made, x -> x.way(code, k, 0), UNKNOWN);
                EDGE.keeps(edge + " as j, 14: way", made, x -> x.way(code, 0, k), UNKNOWN);
                EDGE.keeps(edge + " as both, 14: way", made, x -> x.way(code, k, k), UNKNOWN);
            }
        }
    }

    private static void joinedAndWayTellOutsideFirst() {
        for (int code : noCodes(4)) {
            for (int k : Edge.noPoints(4)) {
                String edge = "no CODE " + code + " and no POINT " + k;
                EDGE.keeps(edge + " as i, 13: joined", four(), x -> x.joined(code, k, 0), OUTSIDE);
                EDGE.keeps(edge + " as j, 13: joined", four(), x -> x.joined(code, 0, k), OUTSIDE);
                EDGE.keeps(edge + " as i, 14: way", four(), x -> x.way(code, k, 0), OUTSIDE);
                EDGE.keeps(edge + " as j, 14: way", four(), x -> x.way(code, 0, k), OUTSIDE);
            }
        }
    }

    private static void joinedAndWayOfOneWithItself() {
        for (int i = 0; i < 4; i++) {
            int same = i;
            EDGE.keeps("13: joined(7, " + i + ", " + i + ")", four(), x -> x.joined(7, same, same), 0);
            EDGE.keeps("14: way(7, " + i + ", " + i + ")", four(), x -> x.way(7, same, same), 0);
        }
    }

    private static void wayFromLeastToGreatest() {
        EDGE.keeps("14: one JOIN of 1", HugTrees::new, x -> x.way(0, 0, 1), 1);
        EDGE.keeps("14: five JOINS of 1000", chain(1000, 1), x -> x.way(CHAIN, 0, 5), 5000);
        EDGE.keeps("14: five JOINS of 1000, back", chain(1000, 1), x -> x.way(CHAIN, 5, 0), 5000);
        EDGE.keeps("14: four JOINS of 1000", chain(1000, 1), x -> x.way(CHAIN, 1, 5), 4000);
    }

    private static void stretchPartsZeroAndOne() {
        EDGE.keeps("15: part 0 is above", Edge.of(3, 2, 3, 3), x -> x.stretch(0, 0), 5);
        EDGE.keeps("15: part 1 is below", Edge.of(3, 2, 3, 3), x -> x.stretch(0, 1), 3);
    }

    private static void stretchPartsBeyondAreOutside() {
        for (int part : Edge.beyond(0, 1)) {
            EDGE.keeps("15: stretch(7, " + part + ")", four(), x -> x.stretch(7, part), -102L);
            EDGE.keeps("15: stretch(0, " + part + ")", HugTrees::new, x -> x.stretch(0, part), -102L);
        }
    }

    private static void stretchOfNoCodeAndNoPart() {
        for (int part : Edge.beyond(0, 1)) {
            EDGE.keeps("15: stretch(16, " + part + ")", four(), x -> x.stretch(16, part), -102L);
            EDGE.keeps("15: stretch(-1, " + part + ")", four(), x -> x.stretch(-1, part), -102L);
        }
    }

    private static void dueStretch(String edge, Supplier<HugTrees> made, int code, long above, long below) {
        EDGE.keeps("15: above, " + edge, made, x -> x.stretch(code, 0), above);
        EDGE.keeps("15: below, " + edge, made, x -> x.stretch(code, 1), below);
    }

    private static void stretchFromLeastToGreatest() {
        dueStretch("two POINTS of 1", Edge.alike(2, 1), 0, 1, 1);
        dueStretch("two POINTS of 1000", Edge.alike(2, 1000), 0, 1, 1);
        dueStretch("a WAY alike D", Edge.of(3, 3, 4, 7), 0, 1, 1);
        dueStretch("a WAY one above D", Edge.of(3, 3, 4, 6), 0, 7, 6);
        dueStretch("a WAY one below D", Edge.of(3, 3, 4, 8), 0, 1, 1);
        dueStretch("a WAY one above the greatest D", Edge.of(3, 1, 1000, 1000), 0, 1001, 1000);
        dueStretch("the longest WAY by the least D", chain(1000, 1), CHAIN, 5000, 1);
    }

    private static void stretchInLowestTerms() {
        dueStretch("2000 by 1000", Edge.alike(3, 1000), 0, 2, 1);
        dueStretch("1500 by 1000", Edge.of(3, 500, 1000, 1000), 0, 3, 2);
        dueStretch("1999 by 1000", Edge.of(3, 999, 1000, 1000), 0, 1999, 1000);
        dueStretch("10 by 4", Edge.of(3, 4, 6, 4), 0, 5, 2);
        dueStretch("1998 by 999", Edge.alike(3, 999), 0, 2, 1);
        dueStretch("5 by 2 and 10 by 4 are alike", Edge.of(4, 2, 3, 7, 2, 7, 4), 0, 5, 2);
    }

    private static void spreadFromLeastToGreatest() {
        EDGE.keeps("16: two POINTS of 1", Edge.alike(2, 1), x -> x.spread(0), 1);
        EDGE.keeps("16: two POINTS of 1000", Edge.alike(2, 1000), x -> x.spread(0), 1000);
        EDGE.keeps("16: a chain of six, each JOIN 1000", chain(1000, 1), x -> x.spread(CHAIN), 35000);
        EDGE.keeps("16: six POINTS of 1 joined with one", Edge.alike(6, 1), x -> x.spread(0), 25);
    }

    private static void bestOfLikeOnesIsTheLeastCode() {
        for (int n = 2; n <= 6; n++) {
            EDGE.searches("17: " + n + " like POINTS, best(0)", Edge.alike(n, 1000), 0, 0);
            EDGE.searches("17: " + n + " like POINTS, best(1)", Edge.alike(n, 1000), 1, 0);
        }
        EDGE.searches("17: CODES 0 and 2 of like STRETCH", Edge.of(3, 200, 100, 200), 0, 0);
        EDGE.searches("17: CODES 1 and 2 of like STRETCH", Edge.of(3, 3, 3, 2), 0, 1);
        EDGE.searches("17: CODES 1 and 2 of like SPREAD", Edge.of(3, 3, 3, 2), 1, 1);
        EDGE.searches("17: CODES 0 and 2 of like SPREAD", Edge.of(3, 3, 2, 3), 1, 0);
    }

    /** All joined with 0 are stretched by 3 at most, as by any chain, but a chain has less SPREAD. */
    private static void bestAndClosestMayBeUnlike() {
        Supplier<HugTrees> ring = Edge.of(4, 1, 2, 1, 1, 2, 1);
        EDGE.searches("17: THE BEST of a ring", ring, 0, 0);
        EDGE.searches("17: THE CLOSEST of a ring", ring, 1, 3);
    }

    private static void bestMayBeTheGreatestCode() {
        for (int n = 3; n <= 6; n++) {
            int[] d = Edge.pairs(n, 2);
            for (int i = 0, pair = -1; i < n - 1; i++) {
                pair += n - 1 - i;
                d[pair] = 1;
            }
            EDGE.searches("17: " + n + " POINTS, best(0)", Edge.of(n, d), 0, Edge.codes(n) - 1);
            EDGE.searches("17: " + n + " POINTS, best(1)", Edge.of(n, d), 1, Edge.codes(n) - 1);
        }
    }

    private static void bestAsksZeroAndOne() {
        for (int which : Edge.beyond(0, 1)) {
            EDGE.keeps("17: best(" + which + ")", four(), x -> x.best(which), OUTSIDE);
            EDGE.keeps("17: best(" + which + ") of a new object", HugTrees::new, x -> x.best(which), OUTSIDE);
        }
    }

    private static void bestIsFullAfterSixtyTimes() {
        Supplier<HugTrees> chain = Edge.of(3, 1, 2, 1);
        Supplier<HugTrees> newPoints = () -> {
            HugTrees x = Edge.searched(chain, 60).get();
            x.points(2);
            return x;
        };
        EDGE.keeps("17: the 60th time is counted", Edge.searched(chain, 60), x -> x.count(3), 60);
        for (int which = 0; which <= 1; which++) {
            int asked = which;
            String edge = "17: best(" + which + "), ";
            EDGE.searches(edge + "the first time", chain, which, 1);
            EDGE.searches(edge + "the 60th time", Edge.searched(chain, 59), which, 1);
            EDGE.keeps(edge + "the 61st time", Edge.searched(chain, 60), x -> x.best(asked), FULL);
            EDGE.keeps(edge + "the 62nd time", Edge.searched(chain, 61), x -> x.best(asked), FULL);
            EDGE.keeps(edge + "after points()", newPoints, x -> x.best(asked), FULL);
        }
    }

    private static void bestTellsOutsideFirst() {
        for (int which : Edge.beyond(0, 1)) {
            EDGE.keeps("17: best(" + which + ") after 60 times", Edge.searched(four(), 60), x -> x.best(which),
                    OUTSIDE);
        }
    }

    private static void bestRefusedIsNotDone() {
        EDGE.keeps("17: 60 refused ones leave 60", four(), x -> {
            for (int time = 0; time < 60; time++) {
                x.best(2);
            }
            return x.count(3);
        }, 0);
        EDGE.keeps("17: refused ones are not counted beyond 60", Edge.searched(four(), 70), x -> x.count(3), 60);
    }

    private static void growUpToAThousand() {
        EDGE.changes("18: a WAY of 1000", Edge.of(3, 400, 600, 1), x -> x.grow(0), 1, Edge.of(3, 400, 600, 1000));
        EDGE.keeps("18: a WAY of 1001", Edge.of(3, 400, 601, 1), x -> x.grow(0), STATE);
        EDGE.changes("18: all WAYS of 1000", Edge.alike(6, 500), x -> x.grow(0), 10,
                Edge.of(6, 500, 500, 500, 500, 500, 1000, 1000, 1000, 1000, 1000, 1000, 1000, 1000, 1000, 1000));
        EDGE.keeps("18: WAYS of 1001 to the last POINT alone", Edge.of(4, 500, 500, 501, 7, 7, 7), x -> x.grow(0),
                STATE);
        EDGE.keeps("18: the WAY from first to last alone is 1001", Edge.of(4, 300, 7, 7, 300, 7, 401), x -> x.grow(6),
                STATE);
        EDGE.changes("18: the WAY from first to last is 1000", Edge.of(4, 300, 7, 7, 300, 7, 400), x -> x.grow(6), 3,
                Edge.of(4, 300, 600, 1000, 300, 700, 400));
        EDGE.keeps("18: the greatest WAYS", chain(1000, 1), x -> x.grow(CHAIN), STATE);
        EDGE.changes("18: two POINTS of 1000", Edge.alike(2, 1000), x -> x.grow(0), 0, Edge.alike(2, 1000));
    }

    private static void growTellsOutsideFirst() {
        for (int code : noCodes(4)) {
            EDGE.keeps("18: no CODE " + code + ", each WAY above 1000", Edge.alike(4, 1000), x -> x.grow(code),
                    OUTSIDE);
        }
    }

    private static void growOfNoneAndOfMost() {
        EDGE.changes("18: WAYS alike D change no pair", Edge.of(3, 3, 4, 7), x -> x.grow(0), 0, Edge.of(3, 3, 4, 7));
        EDGE.changes("18: a WAY one above D changes it", Edge.of(3, 3, 4, 6), x -> x.grow(0), 1, Edge.of(3, 3, 4, 7));
        EDGE.changes("18: a WAY one below D changes it", Edge.of(3, 3, 4, 8), x -> x.grow(0), 1, Edge.of(3, 3, 4, 7));
        EDGE.changes("18: all pairs but five", chain(200, 1), x -> x.grow(CHAIN), 10,
                Edge.of(6, 200, 400, 600, 800, 1000, 200, 400, 600, 800, 200, 400, 600, 200, 400, 200));
        EDGE.changes("18: grow() after best() was done 60 times", Edge.searched(Edge.of(3, 3, 4, 8), 60),
                x -> x.grow(0), 1, Edge.of(3, 3, 4, 7));
    }
}
