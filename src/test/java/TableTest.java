/** Promises 1 to 7: the table. */
public final class TableTest {
    private static final Check CHECK = new Check();

    public static void main(String[] args) {
        aNewObject();
        points();
        set();
        get();
        threes();
        fours();
        mend();
        CHECK.finish();
    }

    private static void aNewObject() {
        HugTrees x = new HugTrees();
        CHECK.due("new: count(0)", x.count(0), 2);
        CHECK.due("new: count(3)", x.count(3), 0);
        CHECK.due("new: codes()", x.codes(), 1);
        CHECK.dueTable("new", x, 1);
    }

    private static void points() {
        HugTrees x = new HugTrees();
        for (int n : new int[] {2, 3, 4, 5, 6, 6, 3, 6, 2}) {
            CHECK.due("points(" + n + ")", x.points(n), n);
            CHECK.due("points: count(0)", x.count(0), n);
            int[] ones = new int[n * (n - 1) / 2];
            java.util.Arrays.fill(ones, 1);
            CHECK.dueTable("points(" + n + ")", x, ones);
            for (int i = 0; i < n - 1; i++) {
                x.set(i, n - 1, 500 + i);
            }
        }
        x.best(0);
        x.points(4);
        CHECK.due("points: best() stays counted", x.count(3), 1);
    }

    private static void set() {
        HugTrees x = new HugTrees();
        x.points(4);
        CHECK.due("set(0, 3, 1000)", x.set(0, 3, 1000), 1);
        CHECK.due("set(3, 0, 7)", x.set(3, 0, 7), 1000);
        CHECK.due("set(0, 3, 1)", x.set(0, 3, 1), 7);
        CHECK.due("set(2, 1, 20)", x.set(2, 1, 20), 1);
        CHECK.due("set(1, 2, 20)", x.set(1, 2, 20), 20);
        CHECK.dueTable("set", x, 1, 1, 1, 20, 1, 1);
    }

    private static void get() {
        HugTrees x = Check.table(3, 4, 5, 6);
        CHECK.dueTable("get", x, 4, 5, 6);
    }

    private static void dueTests(String table, HugTrees x, int... isThenBroken) {
        for (int what = 0; what < 3; what++) {
            CHECK.due(table + ": is(" + what + ")", x.is(what), isThenBroken[what]);
            CHECK.due(table + ": broken(" + what + ")", x.broken(what), isThenBroken[what + 3]);
        }
    }

    private static void threes() {
        dueTests("two points", Check.table(2, 1000), 1, 1, 1, 0, 0, 0);
        dueTests("alike sum", Check.table(3, 1, 2, 1), 1, 0, 1, 0, 1, 0);
        dueTests("above the sum", Check.table(3, 1, 3, 1), 0, 0, 0, 1, 1, 0);
        dueTests("two greatest alike", Check.table(3, 1, 2, 2), 1, 1, 1, 0, 0, 0);
        dueTests("by each of two others", Check.table(4, 3, 1, 1, 1, 1, 1), 0, 0, 0, 2, 2, 1);
        dueTests("by one of two others", Check.table(4, 3, 1, 5, 1, 5, 5), 0, 0, 0, 1, 1, 1);
        dueTests("even for six", Check.table(6, 2, 9, 9, 9, 9, 9, 9, 9, 9, 3, 7, 7, 7, 7, 1), 1, 1, 1, 0, 0, 0);
    }

    private static void fours() {
        dueTests("square", Check.table(4, 1, 2, 1, 1, 2, 1), 1, 0, 0, 0, 4, 1);
        dueTests("two greatest sums alike", Check.table(4, 1, 2, 2, 2, 2, 2), 1, 1, 1, 0, 0, 0);
        dueTests("two least sums alike", Check.table(4, 3, 2, 2, 2, 2, 2), 1, 0, 0, 0, 2, 1);
        // Each of the three SUMS stands alone as the greatest one, once.
        dueTests("i, k and j, l greatest", Check.table(4, 2, 3, 2, 2, 2, 2), 1, 0, 0, 0, 2, 1);
        dueTests("i, l and j, k greatest", Check.table(4, 2, 2, 3, 2, 2, 2), 1, 0, 0, 0, 2, 1);
        dueTests("one far pair of six", Check.table(6, 2, 1, 1, 1, 1, 1, 1, 1, 1, 1, 1, 1, 1, 1, 1), 1, 0, 0, 0, 4, 6);
        dueTests("a tree's", Check.table(4, 5, 7, 8, 6, 7, 5), 1, 0, 1, 0, 4, 0);
    }

    private static void mend() {
        HugTrees x = Check.table(4, 1, 1000, 1000, 1, 1000, 1);
        CHECK.due("mend()", x.mend(), 3);
        CHECK.dueTable("mend", x, 1, 2, 3, 1, 2, 1);
        CHECK.due("mend() again", x.mend(), 0);
        // The chain goes 0 5 1 4 2 3, so that no order of the POINTS helps.
        HugTrees y = new HugTrees();
        y.points(6);
        for (int i = 0; i < 6; i++) {
            for (int j = i + 1; j < 6; j++) {
                y.set(i, j, 900);
            }
        }
        int[] chain = {0, 5, 1, 4, 2, 3};
        for (int s = 0; s < 5; s++) {
            y.set(chain[s], chain[s + 1], 100);
        }
        CHECK.due("mend() of a chain", y.mend(), 10);
        CHECK.due("mend: 0 to 3", y.get(0, 3), 500);
        CHECK.due("mend: 3 to 0", y.get(3, 0), 500);
        CHECK.due("mend: 1 to 2", y.get(1, 2), 200);
        CHECK.due("mend: is(0)", y.is(0), 1);
        HugTrees byFirst = Check.table(3, 2, 3, 9);
        CHECK.due("mend() by POINT 0", byFirst.mend(), 1);
        CHECK.dueTable("mend by POINT 0", byFirst, 2, 3, 5);
        HugTrees z = new HugTrees();
        z.set(0, 1, 1000);
        CHECK.due("mend() of two", z.mend(), 0);
        CHECK.dueTable("mend of two", z, 1000);
    }
}
