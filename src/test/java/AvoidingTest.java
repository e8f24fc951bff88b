/** Promise 7: the smallest length of a trip that does not use u and v side by side. */
public final class AvoidingTest {
    public static void main(String[] args) {
        TourSolver x = Samples.fourTowns();
        bothWays(x, 0, 1, 30);
        bothWays(x, 0, 2, 45);
        bothWays(x, 0, 3, 51);
        bothWays(x, 1, 2, 51);
        bothWays(x, 1, 3, 45);
        bothWays(x, 2, 3, 30);
        Due.end();
    }

    private static void bothWays(TourSolver x, int u, int v, int want) {
        Due.same("avoiding(" + u + ", " + v + ")", x.avoiding(u, v), want);
        Due.same("avoiding(" + v + ", " + u + ")", x.avoiding(v, u), want);
    }
}
