/** Terms: "A trip USES two towns side by side iff one comes directly after the other in it, or they are its last town and town 0." */
public final class EdgeSideBySideTest {
    public static void main(String[] args) {
        for (int n = 3; n <= 7; n++) {
            for (int[] trip : Samples.tripsBeforeTheirReverse(n)) {
                everyPair(trip, n);
            }
        }
        Due.end();
    }

    private static void everyPair(int[] trip, int n) {
        // Only this trip and its reverse are 0 long. Any other leaves at least two of the ring's
        // pairs out, and for every pair there is one that leaves out just two: 120.
        TourSolver x = Samples.ring(trip, 0);
        for (int i = 0; i < n; i++) {
            for (int j = 0; j < n; j++) {
                if (i != j) {
                    boolean beside = i - j == 1 || j - i == 1 || i + j == n - 1 && (i == 0 || j == 0);
                    onePair(Samples.text(trip), x, trip[i], trip[j], beside, n);
                }
            }
        }
    }

    private static void onePair(String told, TourSolver x, int u, int v, boolean beside, int n) {
        String pair = "(" + u + ", " + v + ")";
        Due.same(told + " is 0 long: using" + pair, x.using(u, v), beside ? 0 : 120);
        int without = beside ? 120 : 0;
        Due.same(told + " is 0 long: avoiding" + pair, x.avoiding(u, v), n == 3 ? TourSolver.BAD : without);
        Due.same(told + " is 0 long: walk" + pair, x.walk(u, v), beside ? 0 : 60);
    }
}
