/** Terms: "for every two different towns a LENGTH from 0 to 60, the same in both directions." */
public final class EdgeLengthTest {
    public static void main(String[] args) {
        for (int n = 3; n <= 7; n++) {
            for (int u = 0; u < n; u++) {
                for (int v = 0; v < n; v++) {
                    if (u != v) {
                        oneAmongLongest(n, u, v);
                        oneAmongShortest(n, u, v);
                    }
                }
            }
        }
        Due.end();
    }

    private static void oneAmongLongest(int n, int u, int v) {
        for (int length : new int[] {0, 1, 59, 60}) {
            TourSolver x = new TourSolver(n);
            x.road(u, v, length);
            String told = told(n, u, v, length) + ", all others 60: ";
            bothDirections(told, x, u, v, 60 * (n - 1) + length, 60 * (n - 1));
            Due.same(told + "shortest()", x.shortest(), 60 * (n - 1) + length);
        }
    }

    private static void oneAmongShortest(int n, int u, int v) {
        for (int length : new int[] {0, 1, 59, 60}) {
            TourSolver x = Samples.zeros(n);
            x.road(u, v, length);
            String told = told(n, u, v, length) + ", all others 0: ";
            bothDirections(told, x, u, v, length, 0);
            // With three towns every trip takes every pair; else the long one is left out.
            Due.same(told + "shortest()", x.shortest(), n == 3 ? length : 0);
            Due.same(told + "net()", x.net(), 0);
            Due.same(told + "reach()", x.reach(), 0);
        }
    }

    private static void bothDirections(String told, TourSolver x, int u, int v, int using, int walk) {
        Due.same(told + "using(u, v)", x.using(u, v), using);
        Due.same(told + "using(v, u)", x.using(v, u), using);
        Due.same(told + "walk(u, v)", x.walk(u, v), walk);
        Due.same(told + "walk(v, u)", x.walk(v, u), walk);
    }

    private static String told(int n, int u, int v, int length) {
        return "n = " + n + ", u = " + u + ", v = " + v + " at " + length;
    }
}
