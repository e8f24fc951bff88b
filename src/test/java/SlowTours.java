/** The document's words, taken one by one and without any cleverness, to compare with. */
final class SlowTours {
    private final int n;
    private final int[][] length;
    private final int[] list;
    private final boolean[] taken;

    private int best;
    private int count;
    private int[] first;

    SlowTours(int towns) {
        n = Math.max(3, Math.min(7, towns));
        length = new int[n][n];
        list = new int[n];
        taken = new boolean[n];
        for (int[] row : length) {
            java.util.Arrays.fill(row, 60);
        }
    }

    int towns() {
        return n;
    }

    boolean road(int u, int v, int to) {
        if (!pair(u, v) || to < 0 || to > 60) {
            return false;
        }
        length[u][v] = to;
        length[v][u] = to;
        return true;
    }

    int shortest() {
        searchTrips(-1, -1, true);
        return best;
    }

    int town(int k) {
        searchTrips(-1, -1, true);
        return k >= 0 && k < n ? first[k] : -1;
    }

    int trips() {
        searchTrips(-1, -1, true);
        return count;
    }

    int using(int u, int v) {
        if (!pair(u, v)) {
            return -1;
        }
        searchTrips(u, v, true);
        return best;
    }

    int avoiding(int u, int v) {
        if (!pair(u, v) || n == 3) {
            return -1;
        }
        searchTrips(u, v, false);
        return best;
    }

    int walk(int u, int v) {
        if (!pair(u, v)) {
            return -1;
        }
        best = Integer.MAX_VALUE;
        extendWalk(u, v, 0);
        return best;
    }

    int reach() {
        for (int k = 0; k <= 60; k++) {
            boolean[][] way = new boolean[n][n];
            for (int u = 0; u < n; u++) {
                for (int v = 0; v < n; v++) {
                    way[u][v] = u != v && length[u][v] <= k;
                }
            }
            if (connects(way)) {
                return k;
            }
        }
        throw new IllegalStateException("all lengths are at most 60");
    }

    int net() {
        best = Integer.MAX_VALUE;
        choosePairs(0, 1, n - 1, 0, new boolean[n][n]);
        return best;
    }

    int shift(int u, int more) {
        if (u < 0 || u >= n || more < -60 || more > 60) {
            return -1;
        }
        int changed = 0;
        for (int v = 0; v < n; v++) {
            if (v != u) {
                int to = Math.max(0, Math.min(60, length[u][v] + more));
                changed += to == length[u][v] ? 0 : 1;
                length[u][v] = to;
                length[v][u] = to;
            }
        }
        return changed;
    }

    private boolean pair(int u, int v) {
        return u >= 0 && u < n && v >= 0 && v < n && u != v;
    }

    private void searchTrips(int u, int v, boolean wanted) {
        best = Integer.MAX_VALUE;
        count = 0;
        extendTrip(0, u, v, wanted);
    }

    private void extendTrip(int size, int u, int v, boolean wanted) {
        if (size == n) {
            if (u < 0 || usesSideBySide(u, v) == wanted) {
                takeTrip();
            }
            return;
        }
        for (int t = 0; t < n; t++) {
            if (!taken[t] && (size > 0 || t == 0)) {
                taken[t] = true;
                list[size] = t;
                extendTrip(size + 1, u, v, wanted);
                taken[t] = false;
            }
        }
    }

    private void takeTrip() {
        int sum = listLength() + length[list[n - 1]][0];
        if (sum < best) {
            best = sum;
            count = 0;
            first = list.clone();
        }
        count += sum == best ? 1 : 0;
    }

    private boolean usesSideBySide(int u, int v) {
        for (int i = 0; i + 1 < n; i++) {
            if (list[i] == u && list[i + 1] == v || list[i] == v && list[i + 1] == u) {
                return true;
            }
        }
        return u == 0 && v == list[n - 1] || v == 0 && u == list[n - 1];
    }

    private void extendWalk(int u, int v, int size) {
        if (size == n) {
            if (list[0] == u && list[n - 1] == v) {
                best = Math.min(best, listLength());
            }
            return;
        }
        for (int t = 0; t < n; t++) {
            if (!taken[t]) {
                taken[t] = true;
                list[size] = t;
                extendWalk(u, v, size + 1);
                taken[t] = false;
            }
        }
    }

    private int listLength() {
        int sum = 0;
        for (int i = 0; i + 1 < n; i++) {
            sum += length[list[i]][list[i + 1]];
        }
        return sum;
    }

    private void choosePairs(int u, int v, int left, int sum, boolean[][] way) {
        if (left == 0) {
            if (connects(way)) {
                best = Math.min(best, sum);
            }
            return;
        }
        if (u == n - 1) {
            return;
        }
        int nextU = v == n - 1 ? u + 1 : u;
        int nextV = v == n - 1 ? u + 2 : v + 1;
        way[u][v] = true;
        way[v][u] = true;
        choosePairs(nextU, nextV, left - 1, sum + length[u][v], way);
        way[u][v] = false;
        way[v][u] = false;
        choosePairs(nextU, nextV, left, sum, way);
    }

    private boolean connects(boolean[][] way) {
        boolean[] seen = new boolean[n];
        seen[0] = true;
        for (int round = 0; round < n; round++) {
            for (int u = 0; u < n; u++) {
                for (int v = 0; v < n; v++) {
                    seen[v] |= seen[u] && way[u][v];
                }
            }
        }
        for (boolean s : seen) {
            if (!s) {
                return false;
            }
        }
        return true;
    }
}
