/** Promise 2: road sets the length between two towns, or is refused. */
public final class RoadTest {
    public static void main(String[] args) {
        bothDirections();
        everyPairAlone();
        Due.end();
    }

    private static void bothDirections() {
        TourSolver x = Samples.fourTowns();
        Due.same("lengths", Samples.lengths(x, 4), "0-1 1, 0-2 2, 0-3 4, 1-2 8, 1-3 16, 2-3 32, ");
        Due.yes("road(2, 0, 40)", x.road(2, 0, 40));
        Due.same("lengths", Samples.lengths(x, 4), "0-1 1, 0-2 40, 0-3 4, 1-2 8, 1-3 16, 2-3 32, ");
        Due.same("using(2, 0) - walk(2, 0)", Samples.length(x, 2, 0), 40);
        Due.yes("road(0, 2, 2)", x.road(0, 2, 2));
        Due.yes("road(0, 2, 2) again", x.road(0, 2, 2));
        Due.same("lengths", Samples.lengths(x, 4), "0-1 1, 0-2 2, 0-3 4, 1-2 8, 1-3 16, 2-3 32, ");
    }

    private static void everyPairAlone() {
        for (int n = 3; n <= 7; n++) {
            TourSolver x = new TourSolver(n);
            for (int u = 0; u < n; u++) {
                for (int v = 0; v < n; v++) {
                    if (u != v) {
                        String call = "n = " + n + ": road(" + u + ", " + v + ", ";
                        Due.yes(call + "7)", x.road(u, v, 7));
                        Due.same(call + "7), then length", Samples.length(x, u, v), 7);
                        Due.same(call + "7), then shortest()", x.shortest(), 60 * n - 53);
                        Due.yes(call + "60)", x.road(u, v, 60));
                        Due.same(call + "60), then shortest()", x.shortest(), 60 * n);
                    }
                }
            }
        }
    }
}
