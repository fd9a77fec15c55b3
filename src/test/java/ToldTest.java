/** Promises 24 and 25: what is told. */
public final class ToldTest {
    private static final Check CHECK = new Check();

    public static void main(String[] args) {
        count();
        digest();
        CHECK.finish();
    }

    private static void count() {
        HugTrees x = Check.table(4, 2, 4, 10, 6, 3, 5);
        x.best(1);
        CHECK.due("count(0)", x.count(0), 4);
        CHECK.due("count(1)", x.count(1), 30);
        CHECK.due("count(2)", x.count(2), 10);
        CHECK.due("count(3)", x.count(3), 1);
        x.set(2, 3, 1000);
        CHECK.due("count(1) of the last pair", x.count(1), 1025);
        CHECK.due("count(2) of the last pair", x.count(2), 1000);
        x.points(6);
        x.set(4, 5, 17);
        CHECK.due("count(1) of six", x.count(1), 31);
        CHECK.due("count(2) of six", x.count(2), 17);
        x.points(2);
        CHECK.due("count(1) of fewer points", x.count(1), 1);
        CHECK.due("count(2) of fewer points", x.count(2), 1);
    }

    private static long hashed(long... numbers) {
        long h = 197;
        for (long number : numbers) {
            h = 31 * h + number;
        }
        return h;
    }

    private static void digest() {
        HugTrees x = new HugTrees();
        CHECK.due("digest() of a new object", x.digest(), 181994211L);
        CHECK.due("digest() of a new object", x.digest(), hashed(2, 1, 1, 0));
        x.points(4);
        int[] d = {5, 100, 90, 3, 80, 4};
        int next = 0;
        for (int i = 0; i < 4; i++) {
            for (int j = i + 1; j < 4; j++) {
                x.set(i, j, d[next++]);
            }
        }
        x.best(0);
        x.best(1);
        CHECK.due("digest()", x.digest(), hashed(4, 5, 5, 100, 5, 90, 5, 3, 3, 80, 4, 4, 4, 2));
        CHECK.due("digest() again", x.digest(), hashed(4, 5, 5, 100, 5, 90, 5, 3, 3, 80, 4, 4, 4, 2));
        x.lower();
        CHECK.due("digest() of low", x.digest(), hashed(4, 5, 5, 5, 5, 5, 5, 3, 3, 4, 4, 4, 4, 2));
        x.points(6);
        long[] many = new long[32];
        java.util.Arrays.fill(many, 1);
        many[0] = 6;
        many[31] = 2;
        CHECK.due("digest() that wraps", x.digest(), hashed(many));
    }
}
