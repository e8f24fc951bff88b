/** Promises 1 to 12 together: runs of 512 calls, each answer compared with SlowTours. */
public final class LongRunsTest {
    private static final int RUNS = 60;
    private static final int CALLS = 512;

    // Counted on from a fixed start, so that every run of this test is the same.
    private static long seed = 20261115L;

    public static void main(String[] args) {
        for (int run = 0; run < RUNS; run++) {
            compare(run);
        }
        Due.end();
    }

    private static void compare(int run) {
        int towns = run < 50 ? 3 + run % 5 : from(-3, 12);
        // Few different lengths make many trips equally long.
        int spread = new int[] {1, 3, 12, 60}[run / 5 % 4];
        TourSolver x = new TourSolver(towns);
        SlowTours y = new SlowTours(towns);
        for (int i = 0; i < CALLS; i++) {
            one("run " + run + ", call " + i + ": ", x, y, spread);
        }
    }

    private static void one(String at, TourSolver x, SlowTours y, int spread) {
        int n = y.towns();
        int u = number(0, n - 1);
        int v = number(0, n - 1);
        String pair = "(" + u + ", " + v + ")";
        switch (from(0, 13)) {
            case 0: Due.same(at + "shortest()", x.shortest(), y.shortest()); break;
            case 1: Due.same(at + "town(" + u + ")", x.town(u), y.town(u)); break;
            case 2: Due.same(at + "trips()", x.trips(), y.trips()); break;
            case 3: Due.same(at + "using" + pair, x.using(u, v), y.using(u, v)); break;
            case 4: Due.same(at + "avoiding" + pair, x.avoiding(u, v), y.avoiding(u, v)); break;
            case 5: Due.same(at + "walk" + pair, x.walk(u, v), y.walk(u, v)); break;
            case 6: Due.same(at + "reach()", x.reach(), y.reach()); break;
            case 7: Due.same(at + "net()", x.net(), y.net()); break;
            case 8:
                int more = from(0, 3) == 0 ? number(-60, 60) : from(-spread, spread);
                Due.same(at + "shift(" + u + ", " + more + ")", x.shift(u, more), y.shift(u, more));
                break;
            default:
                int length = from(0, 7) == 0 ? number(0, 60) : from(0, spread);
                Due.same(at + "road(" + u + ", " + v + ", " + length + ")",
                    x.road(u, v, length) ? 1 : 0, y.road(u, v, length) ? 1 : 0);
        }
    }

    /** Mostly a number from low to high, now and then one outside. */
    private static int number(int low, int high) {
        switch (from(0, 39)) {
            case 0: return low - 1;
            case 1: return high + 1;
            case 2: return from(0, 1) == 0 ? Integer.MIN_VALUE : Integer.MAX_VALUE;
            case 3: return from(low - 70, high + 70);
            default: return from(low, high);
        }
    }

    private static int from(int low, int high) {
        seed = seed * 6364136223846793005L + 1442695040888963407L;
        return low + (int) ((seed >>> 33) % (high - low + 1));
    }
}
