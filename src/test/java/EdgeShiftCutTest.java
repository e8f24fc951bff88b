/** Promise 11: "every length that would be below 0 or above 60 becomes 0 or 60." */
public final class EdgeShiftCutTest {
    public static void main(String[] args) {
        for (int before = 0; before <= 60; before++) {
            for (int more = -60; more <= 60; more++) {
                shift(3, 0, 1, before, more);
                shift(3, 2, 1, before, more);
            }
        }
        for (int n = 4; n <= 7; n++) {
            for (int u = 0; u < n; u++) {
                atTheEnds(n, u);
            }
        }
        Due.end();
    }

    private static void atTheEnds(int n, int u) {
        for (int before : new int[] {0, 1, 2, 30, 58, 59, 60}) {
            for (int more : new int[] {-60, -59, -58, -31, -30, -29, -2, -1, 0, 1, 2, 29, 30, 31, 58, 59, 60}) {
                shift(n, u, (u + 1) % n, before, more);
                shift(n, u, (u + n - 1) % n, before, more);
            }
        }
    }

    private static void shift(int n, int u, int v, int before, int more) {
        TourSolver x = new TourSolver(n);
        x.road(u, v, before);
        String call = "n = " + n + ", " + u + "-" + v + " is " + before + ": shift(" + u + ", " + more + ")";
        int after = cut(before + more);
        int others = cut(60 + more);
        Due.same(call, x.shift(u, more), (after == before ? 0 : 1) + (others == 60 ? 0 : n - 2));
        Due.same(call + ", then the length", Samples.length(x, u, v), after);
        Due.same(call + ", then the length back", Samples.length(x, v, u), after);
        // No pair without u is shorter than 60, so the pairs with u are a smallest net.
        Due.same(call + ", then net()", x.net(), after + (n - 2) * others);
        Due.same(call + ", then reach()", x.reach(), Math.max(after, others));
    }

    private static int cut(int length) {
        return Math.max(0, Math.min(60, length));
    }
}
