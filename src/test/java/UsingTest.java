/** Promise 6: the smallest length of a trip that uses u and v side by side. */
public final class UsingTest {
    public static void main(String[] args) {
        TourSolver x = Samples.fourTowns();
        bothWays(x, 0, 1, 45);
        bothWays(x, 0, 2, 30);
        bothWays(x, 0, 3, 30);
        bothWays(x, 1, 2, 30);
        bothWays(x, 1, 3, 30);
        bothWays(x, 2, 3, 45);
        TourSolver three = new TourSolver(3);
        three.road(1, 2, 0);
        bothWays(three, 0, 1, 120);
        bothWays(three, 0, 2, 120);
        bothWays(three, 1, 2, 120);
        Due.end();
    }

    private static void bothWays(TourSolver x, int u, int v, int want) {
        Due.same("using(" + u + ", " + v + ")", x.using(u, v), want);
        Due.same("using(" + v + ", " + u + ")", x.using(v, u), want);
    }
}
