import java.util.ArrayList;
import java.util.Arrays;
import java.util.List;

/** The document once more, by its words and with no thought of speed: what HugTrees is compared with. */
final class Model {
    private int n = 2;
    private int[][] d = ones(2);
    private int bestDone = 0;

    private static int[][] ones(int n) {
        int[][] made = new int[n][n];
        for (int i = 0; i < n; i++) {
            Arrays.fill(made[i], 1);
            made[i][i] = 0;
        }
        return made;
    }

    private boolean point(int i) {
        return 0 <= i && i <= n - 1;
    }

    private int power() {
        int many = 1;
        for (int k = 2; k < n; k++) {
            many *= n;
        }
        return many;
    }

    private boolean code(int code) {
        return 0 <= code && code <= power() - 1;
    }

    int points(int m) {
        if (m < 2 || m > 6) {
            return -102;
        }
        n = m;
        d = ones(m);
        return m;
    }

    int set(int i, int j, int v) {
        if (!point(i) || !point(j) || i == j) {
            return -101;
        }
        if (v < 1 || v > 1000) {
            return -102;
        }
        int was = d[i][j];
        d[i][j] = v;
        d[j][i] = v;
        return was;
    }

    int get(int i, int j) {
        return point(i) && point(j) ? d[i][j] : -101;
    }

    int is(int what) {
        if (what < 0 || what > 2) {
            return -102;
        }
        if (what == 2) {
            return is(0) == 1 && broken(2) == 0 ? 1 : 0;
        }
        for (int i = 0; i < n; i++) {
            for (int j = 0; j < n; j++) {
                for (int k = 0; k < n; k++) {
                    int bound = what == 0 ? d[i][k] + d[k][j] : Math.max(d[i][k], d[k][j]);
                    if (d[i][j] > bound) {
                        return 0;
                    }
                }
            }
        }
        return 1;
    }

    int broken(int what) {
        if (what < 0 || what > 2) {
            return -102;
        }
        return what == 2 ? brokenFours() : brokenThrees(what);
    }

    private int brokenThrees(int what) {
        int many = 0;
        for (int i = 0; i < n; i++) {
            for (int j = i + 1; j < n; j++) {
                for (int k = 0; k < n; k++) {
                    if (k == i || k == j) {
                        continue;
                    }
                    if (d[i][j] > (what == 0 ? d[i][k] + d[k][j] : Math.max(d[i][k], d[k][j]))) {
                        many++;
                    }
                }
            }
        }
        return many;
    }

    private int brokenFours() {
        int many = 0;
        for (int set = 0; set < 1 << n; set++) {
            if (Integer.bitCount(set) != 4) {
                continue;
            }
            int[] p = new int[4];
            int next = 0;
            for (int i = 0; i < n; i++) {
                if ((set >> i & 1) == 1) {
                    p[next++] = i;
                }
            }
            int[] sums = {d[p[0]][p[1]] + d[p[2]][p[3]], d[p[0]][p[2]] + d[p[1]][p[3]],
                d[p[0]][p[3]] + d[p[1]][p[2]]};
            Arrays.sort(sums);
            if (sums[1] != sums[2]) {
                many++;
            }
        }
        return many;
    }

    /** Over every way from i to j that comes to no POINT twice. */
    private int leastWay(int i, int j, boolean summed, int soFar, int seen) {
        if (i == j) {
            return soFar;
        }
        int least = Integer.MAX_VALUE;
        for (int k = 0; k < n; k++) {
            if ((seen >> k & 1) == 0) {
                int then = summed ? soFar + d[i][k] : Math.max(soFar, d[i][k]);
                least = Math.min(least, leastWay(k, j, summed, then, seen | 1 << k));
            }
        }
        return least;
    }

    private int[][] leastWays(boolean summed) {
        int[][] made = new int[n][n];
        for (int i = 0; i < n; i++) {
            for (int j = 0; j < n; j++) {
                made[i][j] = leastWay(i, j, summed, 0, 1 << i);
            }
        }
        return made;
    }

    private int become(int[][] other) {
        int changed = 0;
        for (int i = 0; i < n; i++) {
            for (int j = 0; j < n; j++) {
                changed += d[i][j] != other[i][j] ? 1 : 0;
            }
        }
        d = other;
        return changed / 2;
    }

    int mend() {
        return become(leastWays(true));
    }

    int low(int i, int j) {
        return point(i) && point(j) ? leastWay(i, j, false, 0, 1 << i) : -101;
    }

    int gap() {
        int gap = 0;
        for (int i = 0; i < n; i++) {
            for (int j = 0; j < n; j++) {
                gap = Math.max(gap, d[i][j] - low(i, j));
            }
        }
        return gap;
    }

    int groups(int r) {
        if (r < 0 || r > 1000) {
            return -102;
        }
        boolean[] seen = new boolean[n];
        int groups = 0;
        for (int i = 0; i < n; i++) {
            if (!seen[i]) {
                groups++;
                flood(i, r, seen);
            }
        }
        return groups;
    }

    private void flood(int i, int r, boolean[] seen) {
        seen[i] = true;
        for (int j = 0; j < n; j++) {
            if (!seen[j] && d[i][j] <= r) {
                flood(j, r, seen);
            }
        }
    }

    int lower() {
        return become(leastWays(false));
    }

    int codes() {
        return power();
    }

    private boolean[][] joins(int code) {
        List<Integer> rest = new ArrayList<>();
        for (int k = 0, left = code; k < n - 2; k++, left /= n) {
            rest.add(0, left % n);
        }
        List<Integer> left = new ArrayList<>();
        for (int i = 0; i < n; i++) {
            left.add(i);
        }
        boolean[][] joined = new boolean[n][n];
        while (!rest.isEmpty()) {
            for (int k = 0; k < left.size(); k++) {
                if (!rest.contains(left.get(k))) {
                    int leaf = left.remove(k);
                    int to = rest.remove(0);
                    joined[leaf][to] = true;
                    joined[to][leaf] = true;
                    break;
                }
            }
        }
        joined[left.get(0)][left.get(1)] = true;
        joined[left.get(1)][left.get(0)] = true;
        return joined;
    }

    private void walk(boolean[][] joined, int from, int at, int came, int soFar, int[][] ways) {
        ways[from][at] = soFar;
        for (int next = 0; next < n; next++) {
            if (joined[at][next] && next != came) {
                walk(joined, from, next, at, soFar + d[at][next], ways);
            }
        }
    }

    private int[][] ways(int code) {
        boolean[][] joined = joins(code);
        int[][] ways = new int[n][n];
        for (int i = 0; i < n; i++) {
            walk(joined, i, i, -1, 0, ways);
        }
        return ways;
    }

    int joined(int code, int i, int j) {
        if (!code(code)) {
            return -102;
        }
        return point(i) && point(j) ? (joins(code)[i][j] ? 1 : 0) : -101;
    }

    int way(int code, int i, int j) {
        if (!code(code)) {
            return -102;
        }
        return point(i) && point(j) ? ways(code)[i][j] : -101;
    }

    private long[] stretchOf(int code) {
        int[][] ways = ways(code);
        long[] most = {0, 1};
        for (int i = 0; i < n; i++) {
            for (int j = 0; j < n; j++) {
                if (i != j && ways[i][j] * most[1] > most[0] * d[i][j]) {
                    most = new long[] {ways[i][j], d[i][j]};
                }
            }
        }
        for (long by = most[0]; by > 1; by--) {
            if (most[0] % by == 0 && most[1] % by == 0) {
                return new long[] {most[0] / by, most[1] / by};
            }
        }
        return most;
    }

    long stretch(int code, int part) {
        return code(code) && (part == 0 || part == 1) ? stretchOf(code)[part] : -102;
    }

    int spread(int code) {
        if (!code(code)) {
            return -102;
        }
        int sum = 0;
        for (int[] row : ways(code)) {
            for (int way : row) {
                sum += way;
            }
        }
        return sum / 2;
    }

    int best(int which) {
        if (which != 0 && which != 1) {
            return -102;
        }
        if (bestDone == 60) {
            return -104;
        }
        bestDone++;
        int found = -1;
        long[] least = {0, 0};
        for (int code = 0; code < power(); code++) {
            long[] here = which == 0 ? stretchOf(code) : new long[] {spread(code), 1};
            if (found < 0 || here[0] * least[1] < least[0] * here[1]) {
                found = code;
                least = here;
            }
        }
        return found;
    }

    int grow(int code) {
        if (!code(code)) {
            return -102;
        }
        int[][] ways = ways(code);
        for (int[] row : ways) {
            for (int way : row) {
                if (way > 1000) {
                    return -103;
                }
            }
        }
        return become(ways);
    }

    private boolean part(int part) {
        for (int p = 1; p < (1 << n) - 1; p++) {
            if (p == part && p % 2 == 1) {
                return true;
            }
        }
        return false;
    }

    private int weightOf(int part) {
        int least = Integer.MAX_VALUE;
        for (int i = 0; i < n; i++) {
            for (int j = 0; j < n; j++) {
                for (int k = 0; k < n; k++) {
                    for (int l = 0; l < n; l++) {
                        if ((part >> i & part >> j & ~(part >> k) & ~(part >> l) & 1) == 1) {
                            int[] sums = {d[i][k] + d[j][l], d[i][l] + d[j][k], d[i][j] + d[k][l]};
                            Arrays.sort(sums);
                            least = Math.min(least, sums[2] - d[i][j] - d[k][l]);
                        }
                    }
                }
            }
        }
        return least;
    }

    int weight(int part) {
        if (!part(part)) {
            return -102;
        }
        return is(0) == 1 ? weightOf(part) : -103;
    }

    int parts() {
        if (is(0) == 0) {
            return -103;
        }
        int many = 0;
        for (int p = 0; p < 64; p++) {
            many += part(p) && weightOf(p) > 0 ? 1 : 0;
        }
        return many;
    }

    int rest(int i, int j) {
        if (!point(i) || !point(j)) {
            return -10101;
        }
        if (is(0) == 0) {
            return -10103;
        }
        int rest = 2 * d[i][j];
        for (int p = 0; p < 64; p++) {
            if (part(p) && (p >> i & 1) + (p >> j & 1) == 1) {
                rest -= weightOf(p);
            }
        }
        return rest;
    }

    private List<int[]> orders() {
        List<int[]> orders = new ArrayList<>();
        deal(new int[n], 0, orders);
        return orders;
    }

    private void deal(int[] order, int at, List<int[]> orders) {
        if (at == n) {
            orders.add(order.clone());
            return;
        }
        for (int i = 0; i < n; i++) {
            boolean dealt = false;
            for (int k = 0; k < at; k++) {
                dealt = dealt || order[k] == i;
            }
            if (!dealt) {
                order[at] = i;
                deal(order, at + 1, orders);
            }
        }
    }

    private int goesTo(int i, int[] order, int r) {
        for (int point : order) {
            if (d[point][i] <= r) {
                return point;
            }
        }
        throw new IllegalStateException("it reaches itself");
    }

    int drawn(int i, int j, int r) {
        if (!point(i) || !point(j)) {
            return -101;
        }
        if (r < 0 || r > 1000) {
            return -102;
        }
        int parted = 0;
        for (int[] order : orders()) {
            parted += goesTo(i, order, r) != goesTo(j, order, r) ? 1 : 0;
        }
        return parted;
    }

    int goes(int i, int lot, int r) {
        if (!point(i)) {
            return -101;
        }
        List<int[]> orders = orders();
        if (lot < 0 || lot >= orders.size() || r < 0 || r > 1000) {
            return -102;
        }
        return goesTo(i, orders.get(lot), r);
    }

    int count(int what) {
        int sum = 0;
        int most = 0;
        for (int[] row : d) {
            for (int one : row) {
                sum += one;
                most = Math.max(most, one);
            }
        }
        int[] told = {n, sum / 2, most, bestDone};
        return what >= 0 && what < 4 ? told[what] : -102;
    }

    long digest() {
        List<Integer> numbers = new ArrayList<>();
        numbers.add(n);
        for (int i = 0; i < n; i++) {
            for (int j = i + 1; j < n; j++) {
                numbers.add(d[i][j]);
                numbers.add(low(i, j));
            }
        }
        numbers.add(bestDone);
        long h = 197;
        for (int number : numbers) {
            h = 31 * h + number;
        }
        return h;
    }
}
