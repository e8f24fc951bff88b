/** Promise 7: the smallest length of a trip that does not use u and v side by side. */
public final class AvoidingTest {
    public static void main(String[] args) {
        TourSolver x = Samples.fourTowns();
        bothWays(x, 0, 1, 30);
        bothWays(x, 0, 2, 45);
        bothWays(x, 0, 3, 51);
        bothWays(x, 1, 2, 51);
        bothWays(x, 1, 3, 45);
        bothWays(x, 2, 3, 30);
        threeTowns();
        wrongTowns();
        Due.end();
    }

    private static void bothWays(TourSolver x, int u, int v, int want) {
        Due.same("avoiding(" + u + ", " + v + ")", x.avoiding(u, v), want);
        Due.same("avoiding(" + v + ", " + u + ")", x.avoiding(v, u), want);
    }

    private static void threeTowns() {
        TourSolver x = new TourSolver(3);
        for (int u = -1; u <= 3; u++) {
            for (int v = -1; v <= 3; v++) {
                Due.same("n = 3: avoiding(" + u + ", " + v + ")", x.avoiding(u, v), TourSolver.BAD);
            }
        }
    }

    private static void wrongTowns() {
        for (int n = 4; n <= 7; n++) {
            TourSolver x = new TourSolver(n);
            for (int bad : Samples.NO_TOWNS) {
                bothWays(x, 0, bad, TourSolver.BAD);
                bothWays(x, bad, bad, TourSolver.BAD);
            }
            for (int u = 0; u < n; u++) {
                bothWays(x, u, u, TourSolver.BAD);
                bothWays(x, u, n, TourSolver.BAD);
                bothWays(x, u, -1, TourSolver.BAD);
            }
        }
    }
}
