import java.util.Random;

/** All promises together: long runs of calls by lots (always the same), each answer as the Model's. */
public final class ModelTest {
    private static final Check CHECK = new Check();
    private static final int RUNS = 160, CALLS = 512;
    private static final int[] ODD = {Integer.MIN_VALUE, -1000, -1, 0, 1, 6, 7, 999, 1000, 1001, 1 << 30,
        Integer.MAX_VALUE};

    private final Random lots;
    private final HugTrees x = new HugTrees();
    private final Model m = new Model();
    private final int run;
    private final int most;
    private int answers = 0;

    private ModelTest(int run) {
        this.run = run;
        lots = new Random(run);
        // Few unlike D's make many ties, many make few.
        most = new int[] {2, 3, 6, 20, 100, 400, 1000}[run % 7];
    }

    public static void main(String[] args) {
        for (int run = 0; run < RUNS; run++) {
            ModelTest test = new ModelTest(run);
            while (test.answers < CALLS) {
                test.call();
            }
        }
        CHECK.finish();
    }

    private int near(int below) {
        return lots.nextInt(25) == 0 ? ODD[lots.nextInt(ODD.length)] : lots.nextInt(below);
    }

    private int point() {
        return lots.nextInt(30) == 0 ? m.count(0) : near(m.count(0));
    }

    private int code() {
        return lots.nextInt(30) == 0 ? m.codes() : near(m.codes());
    }

    private int distance() {
        return near(most) + 1;
    }

    private int lot() {
        int n = m.count(0);
        int many = 1;
        for (int k = 2; k <= n; k++) {
            many *= k;
        }
        return lots.nextInt(30) == 0 ? many : near(many);
    }

    private void due(String call, long got, long want) {
        CHECK.due("run " + run + ", answer " + ++answers + ": " + call, got, want);
    }

    private void call() {
        int kind = lots.nextInt(40);
        if (kind < 6) {
            changeTable(kind);
        } else if (kind < 16) {
            int i = point();
            int j = point();
            int v = distance();
            due("set(" + i + ", " + j + ", " + v + ")", x.set(i, j, v), m.set(i, j, v));
        } else if (kind < 24) {
            askTable(kind);
        } else if (kind < 30) {
            askTrees(kind);
        } else {
            askParts(kind);
        }
        if (answers < CALLS && lots.nextInt(4) == 0) {
            due("digest()", x.digest(), m.digest());
        }
    }

    private void changeTable(int kind) {
        int code = code();
        switch (kind) {
            case 0 -> {
                int n = lots.nextInt(6) == 0 ? near(9) : lots.nextInt(60) == 0 ? 2 : 3 + lots.nextInt(4);
                if (lots.nextInt(4) == 0) {
                    due("points(" + n + ")", x.points(n), m.points(n));
                }
            }
            case 1, 2 -> due("mend()", x.mend(), m.mend());
            case 3 -> {
                if (lots.nextInt(3) == 0) {
                    due("lower()", x.lower(), m.lower());
                }
            }
            case 4 -> due("grow(" + code + ")", x.grow(code), m.grow(code));
            default -> {
                int which = near(2);
                due("best(" + which + ")", x.best(which), m.best(which));
            }
        }
    }

    private void askTable(int kind) {
        int i = point();
        int j = point();
        int what = near(4);
        int r = near(most + 2);
        switch (kind) {
            case 16 -> due("get(" + i + ", " + j + ")", x.get(i, j), m.get(i, j));
            case 17 -> due("is(" + what + ")", x.is(what), m.is(what));
            case 18, 19 -> due("broken(" + what + ")", x.broken(what), m.broken(what));
            case 20 -> due("low(" + i + ", " + j + ")", x.low(i, j), m.low(i, j));
            case 21 -> due("gap()", x.gap(), m.gap());
            case 22 -> due("groups(" + r + ")", x.groups(r), m.groups(r));
            default -> due("count(" + what + ")", x.count(what), m.count(what));
        }
    }

    private void askTrees(int kind) {
        int code = code();
        int i = point();
        int j = point();
        int part = near(2);
        switch (kind) {
            case 24 -> due("codes()", x.codes(), m.codes());
            case 25 -> due("joined(" + code + ", " + i + ", " + j + ")", x.joined(code, i, j), m.joined(code, i, j));
            case 26 -> due("way(" + code + ", " + i + ", " + j + ")", x.way(code, i, j), m.way(code, i, j));
            case 27, 28 -> due("stretch(" + code + ", " + part + ")", x.stretch(code, part), m.stretch(code, part));
            default -> due("spread(" + code + ")", x.spread(code), m.spread(code));
        }
    }

    private void askParts(int kind) {
        int i = point();
        int j = point();
        int r = near(most + 2);
        int part = near((1 << m.count(0)) + 1) | (lots.nextInt(5) == 0 ? 0 : 1);
        int lot = lot();
        switch (kind) {
            case 30, 31, 32 -> due("weight(" + part + ")", x.weight(part), m.weight(part));
            case 33 -> due("parts()", x.parts(), m.parts());
            case 34, 35 -> due("rest(" + i + ", " + j + ")", x.rest(i, j), m.rest(i, j));
            case 36, 37 -> due("drawn(" + i + ", " + j + ", " + r + ")", x.drawn(i, j, r), m.drawn(i, j, r));
            default -> due("goes(" + i + ", " + lot + ", " + r + ")", x.goes(i, lot, r), m.goes(i, lot, r));
        }
    }
}
