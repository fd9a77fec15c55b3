import java.math.BigInteger;
import java.util.function.Supplier;

/** Promises 24 and 25, and what holds for all calls: what is least, greatest, just beyond, or refused. */
public final class ToldEdgeTest {
    private static final Edge EDGE = new Edge();
    private static final int OUTSIDE = HugTrees.OUTSIDE;

    public static void main(String[] args) {
        countAsksFromZeroToThree();
        countBeyondIsOutside();
        countFromLeastToGreatest();
        digestOfTheLeastAndTheGreatest();
        digestCountsBest();
        digestWraps();
        theLastOfAllCalls();
        EDGE.finish();
    }

    private static void countAsksFromZeroToThree() {
        Supplier<HugTrees> made = Edge.searched(Edge.of(4, 2, 4, 10, 6, 3, 5), 3);
        int[] want = {4, 30, 10, 3};
        for (int what = 0; what <= 3; what++) {
            int asked = what;
            EDGE.keeps("24: count(" + what + ")", made, x -> x.count(asked), want[what]);
        }
    }

    private static void countBeyondIsOutside() {
        for (int what : Edge.beyond(0, 3)) {
            EDGE.keeps("24: count(" + what + ")", Edge.alike(4, 5), x -> x.count(what), OUTSIDE);
            EDGE.keeps("24: count(" + what + ") of a new object", HugTrees::new, x -> x.count(what), OUTSIDE);
        }
    }

    private static void countFromLeastToGreatest() {
        for (int n = 2; n <= 6; n++) {
            int pairs = n * (n - 1) / 2;
            String edge = n + " POINTS, 24: ";
            EDGE.keeps(edge + "how many", Edge.alike(n, 1), x -> x.count(0), n);
            EDGE.keeps(edge + "the least sum", Edge.alike(n, 1), x -> x.count(1), pairs);
            EDGE.keeps(edge + "the greatest sum", Edge.alike(n, 1000), x -> x.count(1), 1000 * pairs);
            EDGE.keeps(edge + "the least greatest D", Edge.alike(n, 1), x -> x.count(2), 1);
            EDGE.keeps(edge + "the greatest D", Edge.alike(n, 1000), x -> x.count(2), 1000);
        }
        EDGE.keeps("24: best() was never done", HugTrees::new, x -> x.count(3), 0);
        EDGE.keeps("24: best() was done once", Edge.searched(HugTrees::new, 1), x -> x.count(3), 1);
        EDGE.keeps("24: best() was done 60 times", Edge.searched(HugTrees::new, 60), x -> x.count(3), 60);
        EDGE.keeps("24: best() was refused after 60 times", Edge.searched(HugTrees::new, 61), x -> x.count(3), 60);
    }

    private static long hashed(long... numbers) {
        long h = 197;
        for (long number : numbers) {
            h = 31 * h + number;
        }
        return h;
    }

    /** n POINTS, each D (so each LOW) is v. */
    private static long hashedAlike(int n, int v, int times) {
        long[] numbers = new long[n * (n - 1) + 2];
        java.util.Arrays.fill(numbers, v);
        numbers[0] = n;
        numbers[numbers.length - 1] = times;
        return hashed(numbers);
    }

    private static void digestOfTheLeastAndTheGreatest() {
        for (int n = 2; n <= 6; n++) {
            EDGE.keeps(n + " POINTS, 25: the least D", Edge.alike(n, 1), HugTrees::digest, hashedAlike(n, 1, 0));
            EDGE.keeps(n + " POINTS, 25: the greatest D", Edge.alike(n, 1000), HugTrees::digest,
                    hashedAlike(n, 1000, 0));
        }
        EDGE.keeps("25: D ahead of LOW", Edge.of(3, 3, 4, 5), HugTrees::digest, hashed(3, 3, 3, 4, 4, 5, 4, 0));
        EDGE.keeps("25: by i, then j", Edge.of(4, 1, 2, 3, 4, 5, 6), HugTrees::digest,
                hashed(4, 1, 1, 2, 2, 3, 3, 4, 2, 5, 3, 6, 3, 0));
    }

    private static void digestCountsBest() {
        EDGE.keeps("25: best() was done once", Edge.searched(Edge.alike(2, 8), 1), HugTrees::digest,
                hashedAlike(2, 8, 1));
        EDGE.keeps("25: best() was done 60 times", Edge.searched(Edge.alike(2, 8), 60), HugTrees::digest,
                hashedAlike(2, 8, 60));
        EDGE.keeps("25: best() was refused after 60 times", Edge.searched(Edge.alike(2, 8), 61), HugTrees::digest,
                hashedAlike(2, 8, 60));
    }

    /** h without an end, of n POINTS, each D 1000. */
    private static BigInteger unwrapped(int n) {
        BigInteger factor = BigInteger.valueOf(31);
        BigInteger h = BigInteger.valueOf(197).multiply(factor).add(BigInteger.valueOf(n));
        for (int number = 0; number < n * (n - 1); number++) {
            h = h.multiply(factor).add(BigInteger.valueOf(1000));
        }
        return h.multiply(factor);
    }

    private static void digestWraps() {
        for (int n = 2; n <= 6; n++) {
            BigInteger h = unwrapped(n);
            EDGE.due(n + " POINTS go beyond a long", h.bitLength() > 63 ? 1 : 0, n >= 4 ? 1 : 0);
            EDGE.keeps(n + " POINTS, 25: wrapping", Edge.alike(n, 1000), HugTrees::digest, h.longValue());
        }
    }

    /** An object is used for at most 512 calls: the 512th one is still as due. */
    private static void theLastOfAllCalls() {
        HugTrees x = new HugTrees();
        x.points(3);
        for (int call = 2; call < 512; call++) {
            x.set(call % 2, 2, 1 + call);
        }
        EDGE.due("call 512 is digest()", x.digest(), hashed(3, 1, 1, 511, 511, 512, 511, 0));
        HugTrees y = new HugTrees();
        for (int call = 1; call <= 60; call++) {
            y.best(call % 2);
        }
        for (int call = 61; call < 512; call++) {
            EDGE.due("call " + call + " is best(2)", y.best(2), OUTSIDE);
        }
        EDGE.due("call 512 is the 61st best()", y.best(1), HugTrees.FULL);
    }
}
