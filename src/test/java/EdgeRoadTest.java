/** Promise 2: "u or v outside 0..n-1, u = v, or length outside 0..60: refused, answers false. Else true." */
public final class EdgeRoadTest {
    public static void main(String[] args) {
        for (int n = 3; n <= 7; n++) {
            for (int u : Edges.townsAndNoTowns(n)) {
                for (int v : Edges.townsAndNoTowns(n)) {
                    numbersOfTowns(n, u, v);
                }
            }
            lengths(n);
        }
        theSameLengthAgain();
        Due.end();
    }

    private static void numbersOfTowns(int n, int u, int v) {
        boolean isPair = Edges.isInside(u, 0, n - 1) && Edges.isInside(v, 0, n - 1) && u != v;
        for (int length : new int[] {0, 59}) {
            tryRoad(n, u, v, length, isPair);
        }
    }

    private static void lengths(int n) {
        for (int u = 0; u < n; u++) {
            for (int v = 0; v < n; v++) {
                for (int length = 0; length <= 60; length++) {
                    tryRoad(n, u, v, length, u != v);
                }
                for (int length : Edges.outside(0, 60)) {
                    tryRoad(n, u, v, length, false);
                }
            }
        }
    }

    private static void tryRoad(int n, int u, int v, int length, boolean due) {
        TourSolver x = new TourSolver(n);
        String call = "n = " + n + ": road(" + u + ", " + v + ", " + length + ")";
        Due.same(call, x.road(u, v, length) ? 1 : 0, due ? 1 : 0);
        // All other lengths are 60, so the shortest trip and the smallest net take this one.
        int less = due ? 60 - length : 0;
        Due.same(call + ", then shortest()", x.shortest(), 60 * n - less);
        Due.same(call + ", then net()", x.net(), 60 * (n - 1) - less);
    }

    private static void theSameLengthAgain() {
        // Nothing is different after it, but no number is wrong, so it is not refused.
        TourSolver x = new TourSolver(3);
        Due.yes("road(0, 1, 60) when it is 60", x.road(0, 1, 60));
        Due.yes("road(0, 1, 0)", x.road(0, 1, 0));
        Due.yes("road(0, 1, 0) when it is 0", x.road(0, 1, 0));
        Due.yes("road(1, 0, 0) when it is 0", x.road(1, 0, 0));
    }
}
