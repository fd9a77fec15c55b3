import java.util.function.Supplier;

/** Promises 19 to 23: what is least, greatest, just beyond, empty or refused. */
public final class PartEdgeTest {
    private static final Edge EDGE = new Edge();
    private static final int UNKNOWN = HugTrees.UNKNOWN, OUTSIDE = HugTrees.OUTSIDE, STATE = HugTrees.STATE;
    private static final int REST_UNKNOWN = -10101, REST_STATE = -10103;

    public static void main(String[] args) {
        weightOfTheLeastAndTheGreatestPart();
        weightOfNoPartIsOutside();
        weightIsOfNearTablesOnly();
        weightTellsOutsideFirst();
        weightFromNoneToMost();
        weightOfOnePointOnASide();
        partsFromNoneToMost();
        partsIsOfNearTablesOnly();
        restOfOneWithItself();
        restFromNoneToMost();
        restOfNoPointIsUnknown();
        restIsOfNearTablesOnly();
        restTellsUnknownFirst();
        drawnFromReachZeroToAThousand();
        drawnAtDAndJustBelow();
        drawnOfOneWithItself();
        drawnOfNoPointIsUnknown();
        drawnBeyondIsOutside();
        drawnTellsUnknownFirst();
        goesByTheFirstAndTheLastLot();
        goesByEachLotOfFour();
        goesFromReachZeroToAThousand();
        goesOfNoPointIsUnknown();
        goesBeyondIsOutside();
        goesTellsUnknownFirst();
        EDGE.finish();
    }

    private static Supplier<HugTrees> near() {
        return Edge.of(3, 3, 4, 5);
    }

    /** D of 0 1 is just one above the sum. */
    private static Supplier<HugTrees> notNear() {
        return Edge.of(3, 8, 3, 4);
    }

    /** 0 and 1 are v from each of 2, 3 and 4, all else is twice v: no PART of it weighs anything. */
    private static Supplier<HugTrees> twoAndThree(int v) {
        return Edge.of(5, 2 * v, v, v, v, v, v, v, 2 * v, 2 * v, 2 * v);
    }

    /** On a ring of six, D is how many of the 15 cuts of the ring in two part them. */
    private static Supplier<HugTrees> ring() {
        return Edge.of(6, 5, 8, 9, 8, 5, 5, 8, 9, 8, 5, 8, 9, 5, 8, 5);
    }

    private static int[] noParts(int n) {
        int all = (1 << n) - 1;
        return new int[] {-1, 0, 2, all - 1, all, all + 1, all + 2, all + 4, 65, 2 * all + 1, -all, 1 - all, 1 << 30,
            (1 << 30) + 1, Edge.LOWEST, Edge.LOWEST + 1, Edge.LOWEST + 3, Edge.HIGHEST};
    }

    private static void weightOfTheLeastAndTheGreatestPart() {
        for (int n = 2; n <= 6; n++) {
            int most = (1 << n) - 3;
            int want = n == 2 ? 18 : 9;
            EDGE.keeps(n + " POINTS, 19: weight(1)", Edge.alike(n, 9), x -> x.weight(1), want);
            EDGE.keeps(n + " POINTS, 19: weight(" + most + ")", Edge.alike(n, 9), x -> x.weight(most), want);
        }
    }

    private static void weightOfNoPartIsOutside() {
        for (int n = 2; n <= 6; n++) {
            for (int part : noParts(n)) {
                EDGE.keeps(n + " POINTS, 19: weight(" + part + ")", Edge.alike(n, 9), x -> x.weight(part), OUTSIDE);
            }
        }
        for (int part = 2; part < 64; part += 2) {
            int even = part;
            EDGE.keeps("19: without POINT 0, weight(" + part + ")", Edge.alike(6, 9), x -> x.weight(even), OUTSIDE);
        }
    }

    private static void weightIsOfNearTablesOnly() {
        for (int part : new int[] {1, 3, 5}) {
            EDGE.keeps("19: one above the sum, weight(" + part + ")", notNear(), x -> x.weight(part), STATE);
        }
        EDGE.keeps("19: alike the sum, weight(1)", Edge.of(3, 7, 3, 4), x -> x.weight(1), 6);
        EDGE.keeps("19: alike the sum, weight(3)", Edge.of(3, 7, 3, 4), x -> x.weight(3), 0);
        EDGE.keeps("19: alike the sum, weight(5)", Edge.of(3, 7, 3, 4), x -> x.weight(5), 8);
    }

    private static void weightTellsOutsideFirst() {
        for (int part : noParts(3)) {
            EDGE.keeps("19: not NEAR, no PART " + part, notNear(), x -> x.weight(part), OUTSIDE);
        }
    }

    private static void weightFromNoneToMost() {
        EDGE.keeps("19: the least WEIGHT above 0", Edge.of(3, 1, 1, 1), x -> x.weight(1), 1);
        EDGE.keeps("19: no WEIGHT", Edge.of(3, 1, 1, 2), x -> x.weight(1), 0);
        EDGE.keeps("19: the greatest WEIGHT", Edge.alike(2, 1000), x -> x.weight(1), 2000);
        EDGE.keeps("19: the greatest WEIGHT of three", Edge.of(3, 1, 1000, 1000), x -> x.weight(3), 1999);
    }

    /** i may be j, k may be l: else a PART of one POINT, or of all but one, would have nothing to weigh. */
    private static void weightOfOnePointOnASide() {
        EDGE.keeps("19: i is j", near(), x -> x.weight(1), 2);
        EDGE.keeps("19: k is l", near(), x -> x.weight(3), 6);
        EDGE.keeps("19: k is l, POINT 1", near(), x -> x.weight(5), 4);
        // 0 twice with 2, 3 gives 4, but 0, 1 with 2, 3 gives 3.
        EDGE.keeps("19: less by two POINTS on each side", Edge.of(4, 5, 5, 5, 9, 9, 6), x -> x.weight(3), 3);
    }

    private static void partsFromNoneToMost() {
        EDGE.keeps("20: two POINTS", HugTrees::new, HugTrees::parts, 1);
        EDGE.keeps("20: none weighs anything", twoAndThree(1), HugTrees::parts, 0);
        EDGE.keeps("20: one less than all of three", Edge.of(3, 3, 4, 7), HugTrees::parts, 2);
        EDGE.keeps("20: all of three", Edge.of(3, 3, 4, 6), HugTrees::parts, 3);
        EDGE.keeps("20: most of six", ring(), HugTrees::parts, 15);
    }

    private static void partsIsOfNearTablesOnly() {
        EDGE.keeps("20: one above the sum", notNear(), HugTrees::parts, STATE);
        EDGE.keeps("20: alike the sum", Edge.of(3, 7, 3, 4), HugTrees::parts, 2);
    }

    private static void restOfOneWithItself() {
        for (int i = 0; i < 5; i++) {
            int same = i;
            EDGE.keeps("21: rest(" + i + ", " + i + ")", twoAndThree(7), x -> x.rest(same, same), 0);
        }
    }

    private static void restFromNoneToMost() {
        EDGE.keeps("21: nothing is left of two", Edge.alike(2, 1000), x -> x.rest(0, 1), 0);
        EDGE.keeps("21: nothing is left of a ring", ring(), x -> x.rest(0, 5), 0);
        EDGE.keeps("21: nothing is left across a ring", ring(), x -> x.rest(5, 2), 0);
        EDGE.keeps("21: all is left, the greatest D", twoAndThree(500), x -> x.rest(0, 1), 2000);
        EDGE.keeps("21: all is left, of the last POINT", twoAndThree(500), x -> x.rest(4, 0), 1000);
    }

    private static void restOfNoPointIsUnknown() {
        for (int n = 2; n <= 6; n++) {
            for (int k : Edge.noPoints(n)) {
                String edge = n + " POINTS, 21: rest, no POINT " + k;
                EDGE.keeps(edge + " as i", Edge.alike(n, 9), x -> x.rest(k, 0), REST_UNKNOWN);
                EDGE.keeps(edge + " as j", Edge.alike(n, 9), x -> x.rest(0, k), REST_UNKNOWN);
                EDGE.keeps(edge + " as both", Edge.alike(n, 9), x -> x.rest(k, k), REST_UNKNOWN);
            }
        }
    }

    private static void restIsOfNearTablesOnly() {
        for (int i = 0; i < 3; i++) {
            for (int j = 0; j < 3; j++) {
                int one = i;
                int other = j;
                EDGE.keeps("21: one above the sum, rest(" + i + ", " + j + ")", notNear(), x -> x.rest(one, other),
                        REST_STATE);
                EDGE.keeps("21: alike the sum, rest(" + i + ", " + j + ")", Edge.of(3, 7, 3, 4),
                        x -> x.rest(one, other), 0);
            }
        }
    }

    private static void restTellsUnknownFirst() {
        for (int k : Edge.noPoints(3)) {
            EDGE.keeps("21: not NEAR, no POINT " + k + " as i", notNear(), x -> x.rest(k, 0), REST_UNKNOWN);
            EDGE.keeps("21: not NEAR, no POINT " + k + " as j", notNear(), x -> x.rest(0, k), REST_UNKNOWN);
        }
    }

    private static void drawnFromReachZeroToAThousand() {
        for (int n = 2; n <= 6; n++) {
            int last = n - 1;
            int all = Edge.FACTORIALS[n];
            String edge = n + " POINTS, 22: drawn, reach ";
            EDGE.keeps(edge + "0, the least", Edge.alike(n, 1), x -> x.drawn(0, last, 0), all);
            EDGE.keeps(edge + "1", Edge.alike(n, 1), x -> x.drawn(0, last, 1), 0);
            EDGE.keeps(edge + "999", Edge.alike(n, 1000), x -> x.drawn(last, 0, 999), all);
            EDGE.keeps(edge + "1000, the greatest", Edge.alike(n, 1000), x -> x.drawn(last, 0, 1000), 0);
        }
    }

    private static void drawnAtDAndJustBelow() {
        // At 3 POINT 0 reaches 0 and 1, POINT 2 reaches 1 and 2.
        EDGE.keeps("22: reach is D", Edge.of(3, 1, 5, 3), x -> x.drawn(0, 2, 3), 4);
        EDGE.keeps("22: reach is one below D", Edge.of(3, 1, 5, 3), x -> x.drawn(0, 2, 2), 6);
        EDGE.keeps("22: reach is one below the other D", Edge.of(3, 1, 5, 3), x -> x.drawn(0, 2, 4), 4);
        EDGE.keeps("22: reach is the other D", Edge.of(3, 1, 5, 3), x -> x.drawn(0, 2, 5), 0);
    }

    private static void drawnOfOneWithItself() {
        for (int r : new int[] {0, 1, 4, 1000}) {
            EDGE.keeps("22: drawn(2, 2, " + r + ")", near(), x -> x.drawn(2, 2, r), 0);
        }
    }

    private static void drawnOfNoPointIsUnknown() {
        for (int n = 2; n <= 6; n++) {
            for (int k : Edge.noPoints(n)) {
                String edge = n + " POINTS, 22: drawn, no POINT " + k;
                EDGE.keeps(edge + " as i", Edge.alike(n, 9), x -> x.drawn(k, 0, 5), UNKNOWN);
                EDGE.keeps(edge + " as j", Edge.alike(n, 9), x -> x.drawn(0, k, 5), UNKNOWN);
                EDGE.keeps(edge + " as both", Edge.alike(n, 9), x -> x.drawn(k, k, 5), UNKNOWN);
            }
        }
    }

    private static void drawnBeyondIsOutside() {
        for (int r : Edge.beyond(0, 1000)) {
            EDGE.keeps("22: drawn(0, 1, " + r + ")", near(), x -> x.drawn(0, 1, r), OUTSIDE);
            EDGE.keeps("22: drawn(1, 1, " + r + ")", near(), x -> x.drawn(1, 1, r), OUTSIDE);
        }
    }

    private static void drawnTellsUnknownFirst() {
        for (int r : Edge.beyond(0, 1000)) {
            EDGE.keeps("22: no POINT as i, and reach " + r, near(), x -> x.drawn(3, 0, r), UNKNOWN);
            EDGE.keeps("22: no POINT as j, and reach " + r, near(), x -> x.drawn(0, -1, r), UNKNOWN);
        }
    }

    private static void goesByTheFirstAndTheLastLot() {
        for (int n = 2; n <= 6; n++) {
            int last = n - 1;
            int most = Edge.FACTORIALS[n] - 1;
            Supplier<HugTrees> made = Edge.alike(n, 9);
            EDGE.keeps(n + " POINTS, 23: the first lot", made, x -> x.goes(last, 0, 9), 0);
            EDGE.keeps(n + " POINTS, 23: the last lot", made, x -> x.goes(0, most, 9), last);
            EDGE.keeps(n + " POINTS, 23: the last lot, just short", made, x -> x.goes(0, most, 8), 0);
        }
        // The first lot is 0 1 2 .., the last .. 2 1 0; the last ORDER of 0 is 0 5 4 3 2 1, then comes 1 0 2 ..
        EDGE.keeps("23: lot 119 of six", Edge.of(6, 9, 9, 9, 9, 9, 2, 2, 2, 2, 2, 2, 2, 2, 2, 2),
                x -> x.goes(1, 119, 2), 5);
        EDGE.keeps("23: lot 120 of six", Edge.of(6, 9, 9, 9, 9, 9, 2, 2, 2, 2, 2, 2, 2, 2, 2, 2),
                x -> x.goes(5, 120, 2), 1);
    }

    /** POINT 3 reaches 2 and itself alone: whichever of them comes first in the ORDER. */
    private static void goesByEachLotOfFour() {
        int lot = 0;
        for (int order = 0; order < 4 * 4 * 4; order++) {
            int first = order / 16;
            int second = order / 4 % 4;
            int third = order % 4;
            if (first == second || first == third || second == third) {
                continue;
            }
            int asked = lot++;
            int want = first > 1 ? first : second > 1 ? second : third;
            EDGE.keeps("23: lot " + asked + " of four", Edge.of(4, 1, 1, 6, 1, 6, 5), x -> x.goes(3, asked, 5), want);
        }
        EDGE.due("23: lots of four", lot, 24);
    }

    private static void goesFromReachZeroToAThousand() {
        for (int lot = 0; lot < 6; lot++) {
            int asked = lot;
            EDGE.keeps("23: reach 0, lot " + lot, Edge.alike(3, 1), x -> x.goes(1, asked, 0), 1);
            EDGE.keeps("23: reach 1, lot " + lot, Edge.alike(3, 1), x -> x.goes(1, asked, 1), asked / 2);
            EDGE.keeps("23: reach 999, lot " + lot, Edge.alike(3, 1000), x -> x.goes(2, asked, 999), 2);
            EDGE.keeps("23: reach 1000, lot " + lot, Edge.alike(3, 1000), x -> x.goes(2, asked, 1000), asked / 2);
        }
    }

    private static void goesOfNoPointIsUnknown() {
        for (int n = 2; n <= 6; n++) {
            for (int k : Edge.noPoints(n)) {
                EDGE.keeps(n + " POINTS, 23: goes, no POINT " + k, Edge.alike(n, 9), x -> x.goes(k, 0, 5), UNKNOWN);
            }
        }
    }

    private static void goesBeyondIsOutside() {
        for (int n = 2; n <= 6; n++) {
            for (int lot : Edge.beyond(0, Edge.FACTORIALS[n] - 1)) {
                EDGE.keeps(n + " POINTS, 23: goes, lot " + lot, Edge.alike(n, 9), x -> x.goes(0, lot, 5), OUTSIDE);
                EDGE.keeps(n + " POINTS, 23: goes, lot " + lot + " and reach -1", Edge.alike(n, 9),
                        x -> x.goes(0, lot, -1), OUTSIDE);
            }
        }
        for (int r : Edge.beyond(0, 1000)) {
            EDGE.keeps("23: goes(0, 0, " + r + ")", near(), x -> x.goes(0, 0, r), OUTSIDE);
            EDGE.keeps("23: goes(2, 5, " + r + ")", near(), x -> x.goes(2, 5, r), OUTSIDE);
        }
    }

    private static void goesTellsUnknownFirst() {
        for (int k : Edge.noPoints(3)) {
            EDGE.keeps("23: no POINT " + k + " and no lot", near(), x -> x.goes(k, 6, 5), UNKNOWN);
            EDGE.keeps("23: no POINT " + k + " and no reach", near(), x -> x.goes(k, 0, 1001), UNKNOWN);
            EDGE.keeps("23: no POINT " + k + ", no lot and no reach", near(), x -> x.goes(k, -1, -1), UNKNOWN);
        }
    }
}
