/** Promise 1: "n is towns clamped into 3..7." */
public final class EdgeClampTest {
    public static void main(String[] args) {
        for (int towns = 3; towns <= 7; towns++) {
            hasTowns(towns, towns);
        }
        for (int towns : Edges.outside(3, 7)) {
            hasTowns(towns, towns < 3 ? 3 : 7);
        }
        for (int towns : new int[] {2, 1, 0, -1, -2, -3, -7}) {
            hasTowns(towns, 3);
        }
        for (int towns : new int[] {8, 9, 10, 100}) {
            hasTowns(towns, 7);
        }
        Due.end();
    }

    private static void hasTowns(int towns, int n) {
        String made = "new TourSolver(" + towns + "): ";
        TourSolver x = new TourSolver(towns);
        Due.same(made + "town(n - 1)", x.town(n - 1), n - 1);
        Due.same(made + "town(n)", x.town(n), TourSolver.BAD);
        Due.same(made + "shortest()", x.shortest(), 60 * n);
        Due.same(made + "trips()", x.trips(), Samples.factorial(n - 1));
        Due.same(made + "net()", x.net(), 60 * (n - 1));
        Due.same(made + "using(n - 1, 0)", x.using(n - 1, 0), 60 * n);
        Due.same(made + "using(n, 0)", x.using(n, 0), TourSolver.BAD);
        Due.no(made + "road(0, n, 1)", x.road(0, n, 1));
        Due.yes(made + "road(0, n - 1, 1)", x.road(0, n - 1, 1));
        Due.same(made + "shift(n, 1)", x.shift(n, 1), TourSolver.BAD);
        Due.same(made + "shift(n - 1, -1)", x.shift(n - 1, -1), n - 1);
    }
}
