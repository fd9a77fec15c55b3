/** Promises 19 to 23: parts, and parts drawn by lots. */
public final class PartTest {
    private static final Check CHECK = new Check();

    public static void main(String[] args) {
        weight();
        parts();
        rest();
        drawn();
        drawnByEachLot();
        goes();
        CHECK.finish();
    }

    /** 0 and 1 are 1 from each of 2, 3 and 4, all else is 2: no PART of it weighs anything. */
    private static HugTrees twoAndThree() {
        return Check.table(5, 2, 1, 1, 1, 1, 1, 1, 2, 2, 2);
    }

    private static void weight() {
        HugTrees x = Check.table(3, 3, 4, 5);
        CHECK.due("weight(1)", x.weight(1), 3 + 4 - 5);
        CHECK.due("weight(3)", x.weight(3), 4 + 5 - 3);
        CHECK.due("weight(5)", x.weight(5), 3 + 5 - 4);
        CHECK.due("weight(1) of two", Check.table(2, 1000).weight(1), 2000);
        HugTrees square = Check.table(4, 1, 2, 1, 1, 2, 1);
        int[] want = {0, 2, 0, 0, 2, 0, 0};
        for (int p = 0; p < 7; p++) {
            int part = 2 * p + 1;
            CHECK.due("square: weight(" + part + ")", square.weight(part), want[p]);
        }
        // Edges of 1, 2 (0, 1), 3 (2, 3) and 4 between: weights are twice those.
        HugTrees tree = Check.table(4, 3, 8, 8, 9, 9, 6);
        CHECK.due("tree: weight(1)", tree.weight(1), 2);
        CHECK.due("tree: weight(13)", tree.weight(13), 4);
        CHECK.due("tree: weight(11)", tree.weight(11), 6);
        CHECK.due("tree: weight(7)", tree.weight(7), 6);
        CHECK.due("tree: weight(3)", tree.weight(3), 8);
        CHECK.due("tree: weight(5)", tree.weight(5), 0);
        CHECK.due("tree: weight(9)", tree.weight(9), 0);
        CHECK.dueTable("weight changes nothing", tree, 3, 8, 8, 9, 9, 6);
    }

    private static void parts() {
        CHECK.due("parts() of two", new HugTrees().parts(), 1);
        CHECK.due("parts() of three", Check.table(3, 3, 4, 5).parts(), 3);
        CHECK.due("parts() of a chain", Check.table(3, 3, 8, 5).parts(), 2);
        CHECK.due("parts() of a square", Check.table(4, 1, 2, 1, 1, 2, 1).parts(), 2);
        CHECK.due("parts() of a tree", Check.table(4, 3, 8, 8, 9, 9, 6).parts(), 5);
        CHECK.due("parts() of two and three", twoAndThree().parts(), 0);
        HugTrees six = new HugTrees();
        six.points(6);
        CHECK.due("parts() of six like ones", six.parts(), 6);
    }

    private static void rest() {
        HugTrees tree = Check.table(4, 3, 8, 8, 9, 9, 6);
        HugTrees bare = twoAndThree();
        for (int i = 0; i < 5; i++) {
            for (int j = 0; j < 5; j++) {
                if (i < 4 && j < 4) {
                    CHECK.due("tree: rest(" + i + ", " + j + ")", tree.rest(i, j), 0);
                }
                CHECK.due("rest(" + i + ", " + j + ")", bare.rest(i, j), 2 * bare.get(i, j));
            }
        }
        // A longer leaf at 4 adds a PART of 2 times 5, and the rest stays as it was.
        HugTrees leaf = Check.table(5, 2, 1, 1, 6, 1, 1, 6, 2, 7, 7);
        CHECK.due("leaf: weight(15)", leaf.weight(15), 10);
        CHECK.due("leaf: rest(0, 4)", leaf.rest(0, 4), 2);
        CHECK.due("leaf: rest(4, 2)", leaf.rest(4, 2), 4);
        CHECK.due("leaf: rest(0, 1)", leaf.rest(0, 1), 4);
    }

    private static void drawn() {
        int[] factorials = {1, 1, 2, 6, 24, 120, 720};
        HugTrees x = new HugTrees();
        for (int n = 2; n <= 6; n++) {
            x.points(n);
            CHECK.due(n + " like ones: drawn(0, 1, 0)", x.drawn(0, 1, 0), factorials[n]);
            CHECK.due(n + " like ones: drawn(0, 1, 1)", x.drawn(0, 1, 1), 0);
            CHECK.due(n + " like ones: drawn(1, 1, 0)", x.drawn(1, 1, 0), 0);
        }
        HugTrees y = Check.table(3, 1, 5, 3);
        CHECK.due("drawn(0, 1, 3)", y.drawn(0, 1, 3), 2);
        CHECK.due("drawn(0, 2, 3)", y.drawn(0, 2, 3), 4);
        CHECK.due("drawn(2, 0, 3)", y.drawn(2, 0, 3), 4);
        CHECK.due("drawn(1, 2, 3)", y.drawn(1, 2, 3), 2);
        CHECK.due("drawn(1, 2, 2)", y.drawn(1, 2, 2), 6);
        CHECK.due("drawn(0, 2, 1000)", y.drawn(0, 2, 1000), 0);
    }

    private static void drawnByEachLot() {
        for (int r = 0; r <= 11; r++) {
            for (int i = 0; i < 5; i++) {
                for (int j = 0; j < 5; j++) {
                    HugTrees x = Check.table(5, 3, 7, 9, 8, 8, 10, 9, 6, 5, 7);
                    int parted = 0;
                    for (int lot = 0; lot < 120; lot++) {
                        parted += x.goes(i, lot, r) == x.goes(j, lot, r) ? 0 : 1;
                    }
                    CHECK.due("drawn(" + i + ", " + j + ", " + r + ")", x.drawn(i, j, r), parted);
                }
            }
        }
    }

    private static void goes() {
        HugTrees x = Check.table(3, 4, 5, 4);
        int[] reachesAll = {0, 0, 1, 1, 2, 2};
        // The ORDERS are 012 021 102 120 201 210; at reach 4, 2 does not reach 0.
        int[] reachesOne = {1, 2, 1, 1, 2, 2};
        for (int lot = 0; lot < 6; lot++) {
            CHECK.due("goes(0, " + lot + ", 1000)", x.goes(0, lot, 1000), reachesAll[lot]);
            CHECK.due("goes(1, " + lot + ", 4)", x.goes(1, lot, 4), reachesAll[lot]);
            CHECK.due("goes(2, " + lot + ", 4)", x.goes(2, lot, 4), reachesOne[lot]);
            CHECK.due("goes(2, " + lot + ", 3)", x.goes(2, lot, 3), 2);
            CHECK.due("goes(1, " + lot + ", 0)", x.goes(1, lot, 0), 1);
        }
        int[] lots = {1, 1, 2, 6, 24, 120, 720};
        for (int n = 2; n <= 6; n++) {
            x.points(n);
            CHECK.due("the last lot of " + n, x.goes(0, lots[n] - 1, 1), n - 1);
        }
    }
}
