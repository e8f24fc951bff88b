/** Promise 5: the number of trips with the smallest length, each direction counted. */
public final class TripsTest {
    public static void main(String[] args) {
        TourSolver x = Samples.fourTowns();
        Due.same("trips()", x.trips(), 2);
        x.road(0, 2, 17);
        // 0 1 2 3 and 0 2 1 3 are both 45 long now.
        Due.same("trips() after road(0, 2, 17)", x.trips(), 4);
        x.road(0, 2, 18);
        Due.same("trips() after road(0, 2, 18)", x.trips(), 2);
        for (int n = 3; n <= 7; n++) {
            Due.same("trips(), all 60, n = " + n, new TourSolver(n).trips(), Samples.factorial(n - 1));
            Due.same("trips(), all 0, n = " + n, Samples.zeros(n).trips(), Samples.factorial(n - 1));
            TourSolver y = new TourSolver(n);
            y.road(1, 2, 59);
            // The two side by side, either way round, among n places in a ring.
            Due.same("trips(), one pair shorter, n = " + n, y.trips(), 2 * Samples.factorial(n - 2));
        }
        Due.end();
    }
}
