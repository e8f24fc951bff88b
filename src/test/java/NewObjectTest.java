/** Promise 1: n is towns clamped into 3..7; all lengths are 60. */
public final class NewObjectTest {
    public static void main(String[] args) {
        for (int n = 3; n <= 7; n++) {
            isNew(new TourSolver(n), "new TourSolver(" + n + ")", n);
        }
        isNew(new TourSolver(2), "new TourSolver(2)", 3);
        isNew(new TourSolver(8), "new TourSolver(8)", 7);
        objectsStandApart();
        Due.end();
    }

    private static void isNew(TourSolver x, String made, int n) {
        for (int k = 0; k < n; k++) {
            Due.same(made + ": town(" + k + ")", x.town(k), k);
        }
        Due.same(made + ": town(n)", x.town(n), TourSolver.BAD);
        Due.same(made + ": shortest()", x.shortest(), 60 * n);
        Due.same(made + ": trips()", x.trips(), Samples.factorial(n - 1));
        Due.same(made + ": reach()", x.reach(), 60);
        Due.same(made + ": net()", x.net(), 60 * (n - 1));
        for (int u = 0; u < n; u++) {
            for (int v = u + 1; v < n; v++) {
                String pair = "(" + u + ", " + v + ")";
                Due.same(made + ": length" + pair, Samples.length(x, u, v), 60);
                Due.same(made + ": using" + pair, x.using(u, v), 60 * n);
                Due.same(made + ": avoiding" + pair, x.avoiding(u, v), n == 3 ? TourSolver.BAD : 60 * n);
                Due.same(made + ": walk" + pair, x.walk(u, v), 60 * (n - 1));
            }
        }
    }

    private static void objectsStandApart() {
        TourSolver one = new TourSolver(4);
        TourSolver two = new TourSolver(4);
        one.road(0, 1, 5);
        Due.same("shortest() of the one", one.shortest(), 185);
        Due.same("shortest() of the other", two.shortest(), 240);
    }
}
