/** Terms: a trip "begins with town 0; its length is the sum of the lengths from each town to the next and from the last one back to town 0." */
public final class EdgeTripTest {
    public static void main(String[] args) {
        for (int n = 3; n <= 7; n++) {
            for (int[] trip : Samples.tripsBeforeTheirReverse(n)) {
                everyWayCounts(trip, n);
            }
            lastWayHome(n);
        }
        Due.end();
    }

    private static void everyWayCounts(int[] trip, int n) {
        String told = Samples.text(trip) + " has lengths 1 to n: ";
        TourSolver x = Samples.ring(trip, 1);
        Due.same(told + "shortest()", x.shortest(), n * (n + 1) / 2);
        // With three towns there is no other way round; else only this one takes no 60.
        Due.same(told + "trips()", x.trips(), 2);
        Due.same(told + "town(0)", x.town(0), 0);
    }

    private static void lastWayHome(int n) {
        for (int home = 0; home <= 60; home++) {
            TourSolver x = new TourSolver(n);
            for (int u = 0; u + 1 < n; u++) {
                x.road(u, u + 1, 0);
            }
            x.road(n - 1, 0, home);
            // All other ways round take at least one pair that is 60 long.
            Due.same("n = " + n + ", " + home + " home: shortest()", x.shortest(), home);
            Due.same("n = " + n + ", " + home + " home: walk(0, n - 1)", x.walk(0, n - 1), 0);
        }
    }
}
