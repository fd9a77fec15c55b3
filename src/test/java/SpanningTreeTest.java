import java.util.HashSet;
import java.util.Set;

/** Promises 12 to 18: spanning trees. */
public final class SpanningTreeTest {
    private static final Check CHECK = new Check();

    public static void main(String[] args) {
        codes();
        joined();
        eachTreeHasOneCode();
        way();
        stretch();
        spread();
        best();
        bestIsCounted();
        grow();
        growAgain();
        CHECK.finish();
    }

    /** CODE 7 is 1 3, and joins 0 1, 1 3 and 2 3: of 2, 3 and 5 here. */
    private static HugTrees four() {
        return Check.table(4, 2, 4, 10, 6, 3, 5);
    }

    private static void codes() {
        int[] want = {1, 3, 16, 125, 1296};
        HugTrees x = new HugTrees();
        for (int n = 6; n >= 2; n--) {
            x.points(n);
            CHECK.due("codes() of " + n, x.codes(), want[n - 2]);
        }
    }

    private static void dueJoins(int n, int code, int... pairs) {
        HugTrees x = new HugTrees();
        x.points(n);
        for (int i = 0; i < n; i++) {
            for (int j = 0; j < n; j++) {
                int want = 0;
                for (int p = 0; p < pairs.length; p += 2) {
                    boolean one = pairs[p] == i && pairs[p + 1] == j;
                    boolean other = pairs[p] == j && pairs[p + 1] == i;
                    want = one || other ? 1 : want;
                }
                CHECK.due(n + " points: joined(" + code + ", " + i + ", " + j + ")", x.joined(code, i, j), want);
            }
        }
    }

    private static void joined() {
        dueJoins(2, 0, 0, 1);
        dueJoins(3, 0, 0, 1, 0, 2);
        dueJoins(3, 1, 0, 1, 1, 2);
        dueJoins(3, 2, 0, 2, 1, 2);
        dueJoins(4, 7, 0, 1, 1, 3, 2, 3);
        dueJoins(4, 13, 0, 3, 2, 1, 1, 3);
        dueJoins(4, 15, 0, 3, 1, 3, 2, 3);
        dueJoins(5, 3 * 25 + 3 * 5 + 4, 0, 3, 1, 3, 2, 4, 3, 4);
        dueJoins(6, 0, 0, 1, 0, 2, 0, 3, 0, 4, 0, 5);
        dueJoins(6, 1 * 216 + 2 * 36 + 3 * 6 + 4, 0, 1, 1, 2, 2, 3, 3, 4, 4, 5);
    }

    private static void eachTreeHasOneCode() {
        int[] codes = {1, 3, 16, 125, 1296};
        for (int n = 2; n <= 6; n++) {
            Set<String> trees = new HashSet<>();
            for (int code = 0; code < codes[n - 2]; code++) {
                HugTrees x = new HugTrees();
                x.points(n);
                StringBuilder joins = new StringBuilder();
                int many = 0;
                for (int i = 0; i < n; i++) {
                    for (int j = i + 1; j < n; j++) {
                        int one = x.joined(code, i, j);
                        many += one;
                        joins.append(one);
                    }
                }
                CHECK.due("JOINS of " + n + ", " + code, many, n - 1);
                trees.add(joins.toString());
            }
            CHECK.due("trees of " + n, trees.size(), codes[n - 2]);
        }
    }

    private static void way() {
        HugTrees x = four();
        int[][] want = {{0, 2, 10, 5}, {2, 0, 8, 3}, {10, 8, 0, 5}, {5, 3, 5, 0}};
        for (int i = 0; i < 4; i++) {
            for (int j = 0; j < 4; j++) {
                CHECK.due("way(7, " + i + ", " + j + ")", x.way(7, i, j), want[i][j]);
            }
        }
        CHECK.dueTable("way changes nothing", x, 2, 4, 10, 6, 3, 5);
        HugTrees y = new HugTrees();
        y.set(0, 1, 77);
        CHECK.due("way(0, 1, 0) of two", y.way(0, 1, 0), 77);
        HugTrees z = new HugTrees();
        z.points(6);
        for (int i = 0; i < 5; i++) {
            z.set(i, i + 1, 1000);
        }
        CHECK.due("the longest way", z.way(1 * 216 + 2 * 36 + 3 * 6 + 4, 0, 5), 5000);
        CHECK.due("the longest stretch", z.stretch(1 * 216 + 2 * 36 + 3 * 6 + 4, 0), 5000);
    }

    private static void dueStretch(String call, HugTrees x, int code, int above, int below) {
        CHECK.due(call + ": stretch(" + code + ", 0)", x.stretch(code, 0), above);
        CHECK.due(call + ": stretch(" + code + ", 1)", x.stretch(code, 1), below);
    }

    private static void stretch() {
        dueStretch("10 by 4", four(), 7, 5, 2);
        dueStretch("two points", Check.table(2, 700), 0, 1, 1);
        dueStretch("no way is longer", Check.table(3, 3, 1000, 4), 1, 1, 1);
        dueStretch("already lowest", Check.table(3, 300, 500, 401), 0, 800, 401);
        dueStretch("a whole number", Check.table(3, 300, 500, 400), 0, 2, 1);
        dueStretch("close: 7 by 5 and 10 by 7", Check.table(4, 3, 4, 6, 5, 7, 7), 0, 10, 7);
    }

    private static void spread() {
        HugTrees x = four();
        CHECK.due("spread(7)", x.spread(7), 2 + 10 + 5 + 8 + 3 + 5);
        CHECK.due("spread(0)", x.spread(0), 3 * (2 + 4 + 10));
        CHECK.due("spread(0) of two", Check.table(2, 31).spread(0), 31);
    }

    private static void best() {
        HugTrees chain = Check.table(3, 1, 2, 1);
        CHECK.due("best(0) of a chain", chain.best(0), 1);
        CHECK.due("best(1) of a chain", chain.best(1), 1);
        CHECK.due("best is counted", chain.count(3), 2);
        // By D of 0 1, 0 2 and 1 2: CODE 0 stretches 1 2, CODE 1 0 2, CODE 2 0 1.
        CHECK.due("best(0) of 8 by 4, 7 by 5, 9 by 3", Check.table(3, 3, 5, 4).best(0), 1);
        CHECK.due("best(0) of 11 by 6, 13 by 5, 12 by 7", Check.table(3, 7, 5, 6).best(0), 2);
        CHECK.due("best(0) of 300 by 200, 400 by 100, 300 by 200", Check.table(3, 200, 100, 200).best(0), 0);
        CHECK.due("best(0) of 599 by 400, 698 by 301, 701 by 298", Check.table(3, 298, 301, 400).best(0), 0);
        CHECK.due("best(1) of 3 5 4", Check.table(3, 3, 5, 4).best(1), 1);
        CHECK.due("best(1) of 7 5 6", Check.table(3, 7, 5, 6).best(1), 2);
        HugTrees square = Check.table(4, 1, 2, 1, 1, 2, 1);
        CHECK.due("best(0) of a square", square.best(0), 0);
        CHECK.due("best(1) of a square", square.best(1), 3);
        CHECK.dueTable("best changes no D", square, 1, 2, 1, 1, 2, 1);
        HugTrees six = new HugTrees();
        six.points(6);
        CHECK.due("best(0) of like ones", six.best(0), 0);
        CHECK.due("best(1) of like ones", six.best(1), 0);
        for (int i = 0; i < 5; i++) {
            for (int j = i + 1; j < 5; j++) {
                six.set(i, j, 2);
            }
        }
        CHECK.due("best(0) of the last CODE", six.best(0), 1295);
        CHECK.due("best(1) of the last CODE", six.best(1), 1295);
        CHECK.due("best(0) of two", new HugTrees().best(0), 0);
        CHECK.due("best(1) of two", new HugTrees().best(1), 0);
    }

    private static void bestIsCounted() {
        HugTrees x = Check.table(3, 1, 2, 1);
        for (int time = 1; time <= 60; time++) {
            CHECK.due("best, time " + time, x.best(time % 2), 1);
            CHECK.due("count(3), time " + time, x.count(3), time);
        }
    }

    private static void grow() {
        HugTrees x = four();
        CHECK.due("grow(7)", x.grow(7), 3);
        CHECK.dueTable("grow(7)", x, 2, 10, 5, 8, 3, 5);
        CHECK.due("grow: is(2)", x.is(2), 1);
        CHECK.due("grow(7) again", x.grow(7), 0);
        CHECK.due("grow(0) of two", new HugTrees().grow(0), 0);
    }

    private static void growAgain() {
        HugTrees six = new HugTrees();
        six.points(6);
        for (int i = 0; i < 5; i++) {
            six.set(i, 5, 500);
        }
        CHECK.due("six: grow(1295)", six.grow(1295), 10);
        six.points(5);
        CHECK.due("grow(0) after more points", six.grow(0), 6);
        HugTrees x = Check.table(3, 500, 7, 501);
        CHECK.due("grow(0)", x.grow(0), 1);
        CHECK.dueTable("grow(0)", x, 500, 7, 507);
        x.set(1, 2, 500);
        CHECK.due("grow(1)", x.grow(1), 1);
        CHECK.dueTable("grow(1)", x, 500, 1000, 500);
    }
}
