/** Promise 11: "Else answers how many lengths changed.", from none to all n - 1. */
public final class EdgeShiftCountTest {
    public static void main(String[] args) {
        for (int n = 3; n <= 7; n++) {
            for (int u = 0; u < n; u++) {
                for (int atEnd = 0; atEnd < n; atEnd++) {
                    someAtTheEnd(n, u, atEnd, 60, 1);
                    someAtTheEnd(n, u, atEnd, 0, -1);
                }
                byNothing(n, u);
            }
        }
        Due.end();
    }

    private static void someAtTheEnd(int n, int u, int atEnd, int end, int step) {
        TourSolver x = manyAtTheEnd(n, u, atEnd, end, step);
        String told = "n = " + n + ", " + atEnd + " lengths of " + u + " at " + end + ": ";
        Due.same(told + "shift(u, 0)", x.shift(u, 0), 0);
        Due.same(told + "shift(u, " + step + ")", x.shift(u, step), n - 1 - atEnd);
        Due.same(told + "shift(u, " + step + ") again", x.shift(u, step), 0);
        Due.same(told + "shift(u, " + 60 * step + ")", x.shift(u, 60 * step), 0);
        Due.same(told + "shift(u, " + -60 * step + ")", x.shift(u, -60 * step), n - 1);
        // A length that changes by less than was to be added has changed too.
        for (int more : new int[] {2, 60}) {
            TourSolver y = manyAtTheEnd(n, u, atEnd, end, step);
            Due.same(told + "shift(u, " + more * step + ")", y.shift(u, more * step), n - 1 - atEnd);
        }
    }

    /** So many lengths of u are at the end already, its others one step before it. */
    private static TourSolver manyAtTheEnd(int n, int u, int atEnd, int end, int step) {
        TourSolver x = Samples.even(n, end);
        for (int i = 1; i < n - atEnd; i++) {
            x.road(u, (u + i) % n, end - step);
        }
        return x;
    }

    private static void byNothing(int n, int u) {
        for (int length : new int[] {0, 1, 30, 59, 60}) {
            Due.same("n = " + n + ", all " + length + ": shift(" + u + ", 0)", Samples.even(n, length).shift(u, 0), 0);
        }
    }
}
