import java.util.Arrays;
import java.util.function.Supplier;

/** One boundary case at a time, each on objects of its own, so that no case leans on another. */
final class Edge {
    static final int LOWEST = Integer.MIN_VALUE, HIGHEST = Integer.MAX_VALUE;
    static final int[] FACTORIALS = {1, 1, 2, 6, 24, 120, 720};
    private static final int[] REACHES = {0, 1, 500, 999, 1000};

    interface Call {
        long on(HugTrees x);
    }

    private final Check check = new Check();

    static Supplier<HugTrees> of(int n, int... d) {
        return () -> Check.table(n, d);
    }

    static Supplier<HugTrees> alike(int n, int v) {
        return of(n, pairs(n, v));
    }

    /** Those objects, with best() done so often. */
    static Supplier<HugTrees> searched(Supplier<HugTrees> made, int times) {
        return () -> {
            HugTrees x = made.get();
            for (int time = 0; time < times; time++) {
                x.best(time % 2);
            }
            return x;
        };
    }

    static int[] pairs(int n, int v) {
        int[] d = new int[n * (n - 1) / 2];
        Arrays.fill(d, v);
        return d;
    }

    /** Numbers that name no POINT of n: just beyond, known to six POINTS alone, and farthest off. */
    static int[] noPoints(int n) {
        return new int[] {-1, n, n + 1, 6, -n, LOWEST, HIGHEST};
    }

    /** Numbers that are not least to greatest. */
    static int[] beyond(int least, int greatest) {
        return new int[] {least - 1, greatest + 1, least - 2, greatest + 2, LOWEST, LOWEST + 1, HIGHEST};
    }

    static int codes(int n) {
        return new int[] {1, 3, 16, 125, 1296}[n - 2];
    }

    /** A question, or a refused call: the answer is due, and all is told as if the call had not been. */
    void keeps(String edge, Supplier<HugTrees> made, Call call, long want) {
        HugTrees x = made.get();
        check.due(edge, call.on(x), want);
        dueAlike(edge, x, made.get());
    }

    /** The answer is due, and all is told as by a new object of that table with best() done as often. */
    void changes(String edge, Supplier<HugTrees> made, Call call, long want, Supplier<HugTrees> becomes) {
        HugTrees x = made.get();
        int times = x.count(3);
        check.due(edge, call.on(x), want);
        dueAlike(edge, x, searched(becomes, times).get());
    }

    /** THE BEST or THE CLOSEST: the answer is due, and it is counted; nothing else changes. */
    void searches(String edge, Supplier<HugTrees> made, int which, long want) {
        HugTrees x = made.get();
        check.due(edge, x.best(which), want);
        dueAlike(edge, x, searched(made, 1).get());
    }

    /** For objects that may not be asked more. */
    void due(String edge, long got, long want) {
        check.due(edge, got, want);
    }

    private void dueAlike(String edge, HugTrees x, HugTrees due) {
        String got = allToldBy(x);
        String want = allToldBy(due);
        check.due(edge + ", then" + got + ", due is" + want, got.equals(want) ? 0 : 1, 0);
    }

    void finish() {
        check.finish();
    }

    /** Some 350 calls at most; the last of them change the object. */
    private static String allToldBy(HugTrees x) {
        StringBuilder told = new StringBuilder();
        int n = x.count(0);
        for (int what = 0; what < 4; what++) {
            tell(told, "count", x.count(what));
        }
        tell(told, "digest", x.digest());
        tell(told, "gap", x.gap());
        tell(told, "parts", x.parts());
        for (int what = 0; what < 3; what++) {
            tell(told, "is", x.is(what));
            tell(told, "broken", x.broken(what));
        }
        for (int r : REACHES) {
            tell(told, "groups", x.groups(r));
        }
        for (int i = 0; i < n; i++) {
            for (int j = 0; j < n; j++) {
                tell(told, "get", x.get(i, j));
            }
            for (int j = i; j < n; j++) {
                tellPair(told, x, i, j);
            }
            tell(told, "goes", x.goes(i, FACTORIALS[n] / 2, 500));
        }
        for (int part = 1; part < (1 << n) - 1; part += 2) {
            tell(told, "weight", x.weight(part));
        }
        tell(told, "best", x.best(0));
        tell(told, "mend", x.mend());
        tell(told, "digest", x.digest());
        return told.toString();
    }

    private static void tellPair(StringBuilder told, HugTrees x, int i, int j) {
        int code = x.codes() / 2;
        tell(told, "low", x.low(i, j));
        tell(told, "rest", x.rest(i, j));
        tell(told, "drawn", x.drawn(i, j, 500));
        tell(told, "joined", x.joined(code, i, j));
        tell(told, "way", x.way(code, i, j));
    }

    private static void tell(StringBuilder told, String call, long answer) {
        told.append(' ').append(call).append(' ').append(answer);
    }
}
