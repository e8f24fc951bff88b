/** Promise 3: the smallest length of a trip. */
public final class ShortestTest {
    public static void main(String[] args) {
        TourSolver x = Samples.fourTowns();
        Due.same("shortest()", x.shortest(), 30);
        x.road(0, 2, 40);
        Due.same("shortest() after road(0, 2, 40)", x.shortest(), 45);
        x.road(1, 2, 60);
        Due.same("shortest() after road(1, 2, 60)", x.shortest(), 89);
        for (int n = 3; n <= 7; n++) {
            Due.same("shortest(), all 60", new TourSolver(n).shortest(), 60 * n);
            Due.same("shortest(), all 0", Samples.zeros(n).shortest(), 0);
        }
        lastWayHomeCounts();
        nearestFirstIsNotAlwaysShortest();
        Due.end();
    }

    private static void lastWayHomeCounts() {
        TourSolver x = new TourSolver(3);
        x.road(0, 1, 10);
        x.road(1, 2, 20);
        x.road(2, 0, 30);
        Due.same("shortest()", x.shortest(), 60);
    }

    private static void nearestFirstIsNotAlwaysShortest() {
        TourSolver x = new TourSolver(4);
        x.road(0, 1, 1);
        x.road(1, 2, 1);
        x.road(2, 3, 1);
        x.road(0, 2, 2);
        x.road(1, 3, 2);
        // Always to the nearest town is 0 1 2 3 and 60 home; 0 1 3 2 is 1 + 2 + 1 + 2.
        Due.same("shortest()", x.shortest(), 6);
    }
}
