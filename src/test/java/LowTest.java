/** Promises 8 to 11: low. */
public final class LowTest {
    private static final Check CHECK = new Check();

    public static void main(String[] args) {
        low();
        gap();
        groups();
        lower();
        CHECK.finish();
    }

    /** A chain 0 1 2 3 of 5, 3, 4; all else is far. */
    private static HugTrees chain() {
        return Check.table(4, 5, 100, 90, 3, 80, 4);
    }

    private static void low() {
        HugTrees x = chain();
        int[][] want = {{0, 5, 5, 5}, {5, 0, 3, 4}, {5, 3, 0, 4}, {5, 4, 4, 0}};
        for (int i = 0; i < 4; i++) {
            for (int j = 0; j < 4; j++) {
                CHECK.due("low(" + i + ", " + j + ")", x.low(i, j), want[i][j]);
            }
        }
        CHECK.dueTable("low changes nothing", x, 5, 100, 90, 3, 80, 4);
        CHECK.due("low(1, 2) by POINT 0", Check.table(3, 2, 3, 9).low(1, 2), 3);
        HugTrees y = new HugTrees();
        y.set(0, 1, 1000);
        CHECK.due("low(0, 1) of two", y.low(0, 1), 1000);
    }

    private static void gap() {
        CHECK.due("gap()", chain().gap(), 95);
        CHECK.due("gap() of ones", new HugTrees().gap(), 0);
        HugTrees x = new HugTrees();
        x.points(6);
        x.set(4, 5, 1000);
        CHECK.due("gap() of the last pair", x.gap(), 999);
        CHECK.due("gap() of the greatest difference", Check.table(3, 900, 950, 950).gap(), 0);
        CHECK.due("gap() that is not of the greatest D", Check.table(4, 10, 60, 1000, 10, 1000, 1000).gap(), 50);
    }

    private static void groups() {
        HugTrees x = chain();
        int[][] want = {{0, 4}, {1, 4}, {2, 4}, {3, 3}, {4, 2}, {5, 1}, {6, 1}, {1000, 1}};
        for (int[] row : want) {
            CHECK.due("groups(" + row[0] + ")", x.groups(row[0]), row[1]);
        }
        // The groups are 0 3 and 1 2 4 5, through POINTS that are far from each other.
        HugTrees y = Check.table(6, 9, 9, 2, 9, 9, 9, 9, 9, 2, 9, 2, 9, 9, 9, 2);
        CHECK.due("groups(1) of mixed", y.groups(1), 6);
        CHECK.due("groups(2) of mixed", y.groups(2), 2);
        CHECK.due("groups(8) of mixed", y.groups(8), 2);
        CHECK.due("groups(9) of mixed", y.groups(9), 1);
    }

    private static void lower() {
        HugTrees x = chain();
        CHECK.due("lower()", x.lower(), 3);
        CHECK.dueTable("lower", x, 5, 5, 5, 3, 4, 4);
        CHECK.due("lower: is(1)", x.is(1), 1);
        CHECK.due("lower: gap()", x.gap(), 0);
        CHECK.due("lower() again", x.lower(), 0);
        HugTrees y = new HugTrees();
        y.set(0, 1, 44);
        CHECK.due("lower() of two", y.lower(), 0);
        CHECK.dueTable("lower of two", y, 44);
    }
}
