/** Promise 1: n is towns clamped into 3..7; all lengths are 60. */
public final class NewObjectTest {
    public static void main(String[] args) {
        int[] towns = {3, 4, 5, 6, 7, 2, 1, 0, -1, -5, 8, 9, 100, Integer.MIN_VALUE, Integer.MAX_VALUE};
        int[] clamped = {3, 4, 5, 6, 7, 3, 3, 3, 3, 3, 7, 7, 7, 3, 7};
        for (int i = 0; i < towns.length; i++) {
            isNew(new TourSolver(towns[i]), "new TourSolver(" + towns[i] + ")", clamped[i]);
        }
        objectsStandApart();
        Due.end();
    }

    private static void isNew(TourSolver x, String made, int n) {
        for (int k = 0; k < n; k++) {
            Due.same(made + ": town(" + k + ")", x.town(k), k);
        }
        Due.same(made + ": town(n)", x.town(n), TourSolver.BAD);
        Due.same(made + ": shortest()", x.shortest(), 60 * n);
        Due.same(made + ": trips()", x.trips(), Samples.factorial(n - 1));
        Due.same(made + ": reach()", x.reach(), 60);
        Due.same(made + ": net()", x.net(), 60 * (n - 1));
        for (int u = 0; u < n; u++) {
            for (int v = u + 1; v < n; v++) {
                String pair = "(" + u + ", " + v + ")";
                Due.same(made + ": length" + pair, Samples.length(x, u, v), 60);
                Due.same(made + ": using" + pair, x.using(u, v), 60 * n);
                Due.same(made + ": avoiding" + pair, x.avoiding(u, v), n == 3 ? TourSolver.BAD : 60 * n);
                Due.same(made + ": walk" + pair, x.walk(u, v), 60 * (n - 1));
            }
        }
        Due.no(made + ": road(0, n, 1)", x.road(0, n, 1));
        Due.yes(made + ": road(0, n - 1, 1)", x.road(0, n - 1, 1));
        Due.same(made + ": shift(n, 1)", x.shift(n, 1), TourSolver.BAD);
        Due.same(made + ": shift(n - 1, -1)", x.shift(n - 1, -1), n - 1);
    }

    private static void objectsStandApart() {
        TourSolver one = new TourSolver(4);
        TourSolver two = new TourSolver(4);
        one.road(0, 1, 5);
        Due.same("shortest() of the one", one.shortest(), 185);
        Due.same("shortest() of the other", two.shortest(), 240);
    }
}
