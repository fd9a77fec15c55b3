/** Counts and prints the calls whose answer is not the one that is due. */
final class Check {
    private int calls = 0;
    private int wrong = 0;

    void due(String call, long got, long want) {
        calls++;
        if (got != want) {
            wrong++;
            System.out.println(call + " answered " + got + ", due is " + want);
        }
    }

    /** An object with n POINTS and D of 0 1, 0 2, .., 1 2, .. */
    static HugTrees table(int n, int... d) {
        HugTrees x = new HugTrees();
        x.points(n);
        int next = 0;
        for (int i = 0; i < n; i++) {
            for (int j = i + 1; j < n; j++) {
                x.set(i, j, d[next++]);
            }
        }
        return x;
    }

    /** What D of 0 1, 0 2, .., 1 2, .. is due to be. */
    void dueTable(String when, HugTrees x, int... d) {
        int n = x.count(0);
        int next = 0;
        for (int i = 0; i < n; i++) {
            due(when + ": get(" + i + ", " + i + ")", x.get(i, i), 0);
            for (int j = i + 1; j < n; j++) {
                due(when + ": get(" + i + ", " + j + ")", x.get(i, j), d[next]);
                due(when + ": get(" + j + ", " + i + ")", x.get(j, i), d[next++]);
            }
        }
    }

    void finish() {
        System.out.println(calls + " answers looked at, " + wrong + " not as due");
        if (wrong != 0 || calls == 0) {
            System.exit(1);
        }
    }
}
