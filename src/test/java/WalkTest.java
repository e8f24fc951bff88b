/** Promise 8: the smallest length of a walk from u to v. */
public final class WalkTest {
    public static void main(String[] args) {
        TourSolver x = Samples.fourTowns();
        bothWays(x, 0, 1, 44);
        bothWays(x, 0, 2, 28);
        bothWays(x, 0, 3, 26);
        bothWays(x, 1, 2, 22);
        bothWays(x, 1, 3, 14);
        bothWays(x, 2, 3, 13);
        TourSolver three = new TourSolver(3);
        three.road(0, 1, 5);
        three.road(1, 2, 7);
        bothWays(three, 0, 2, 12);
        bothWays(three, 0, 1, 67);
        bothWays(three, 1, 2, 65);
        chain();
        Due.end();
    }

    private static void chain() {
        TourSolver x = new TourSolver(7);
        for (int u = 0; u < 6; u++) {
            x.road(u, u + 1, u);
        }
        bothWays(x, 0, 6, 15);
        // From 3 down to 0, over to 6 or 4, and on to the other one.
        bothWays(x, 3, 4, 3 + 60 + 9);
    }

    private static void bothWays(TourSolver x, int u, int v, int want) {
        Due.same("walk(" + u + ", " + v + ")", x.walk(u, v), want);
        Due.same("walk(" + v + ", " + u + ")", x.walk(v, u), want);
    }
}
