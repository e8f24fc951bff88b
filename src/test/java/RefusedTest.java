/** Promise 12: a call that is refused changes nothing; nor does a call that only asks. */
public final class RefusedTest {
    private static final int CALLS = 18;

    public static void main(String[] args) {
        for (int n = 3; n <= 7; n++) {
            for (int bad : new int[] {-1, n, Integer.MIN_VALUE, Integer.MAX_VALUE}) {
                for (int which = 0; which < CALLS; which++) {
                    refusedChangesNothing(n, bad, which);
                }
            }
            askingChangesNothing(n);
        }
        Due.end();
    }

    private static TourSolver uneven(int n) {
        TourSolver x = new TourSolver(n);
        for (int u = 0; u < n; u++) {
            for (int v = u + 1; v < n; v++) {
                x.road(u, v, (u * 17 + v * v * 5 + 3) % 61);
            }
        }
        return x;
    }

    private static void refusedChangesNothing(int n, int bad, int which) {
        TourSolver x = uneven(n);
        String before = Samples.view(x, n);
        String name = "n = " + n + ", number " + bad + ", call " + which;
        Due.yes(name + " is refused", isRefused(x, which, bad));
        Due.same("after " + name, Samples.view(x, n), before);
    }

    private static boolean isRefused(TourSolver x, int which, int bad) {
        switch (which) {
            case 0: return !x.road(0, bad, 1);
            case 1: return !x.road(bad, 1, 1);
            case 2: return !x.road(bad, bad, 1);
            case 3: return !x.road(2, 2, 1);
            case 4: return !x.road(0, 1, -1);
            case 5: return !x.road(2, 1, 61);
            case 6: return !x.road(0, 0, 1);
            case 7: return x.town(bad) == TourSolver.BAD;
            case 8: return x.using(0, bad) == TourSolver.BAD;
            case 9: return x.using(bad, 1) == TourSolver.BAD;
            case 10: return x.avoiding(bad, 2) == TourSolver.BAD;
            case 11: return x.avoiding(1, 1) == TourSolver.BAD;
            case 12: return x.walk(0, bad) == TourSolver.BAD;
            case 13: return x.walk(0, 0) == TourSolver.BAD;
            case 14: return x.shift(bad, 5) == TourSolver.BAD;
            case 15: return x.shift(1, 61) == TourSolver.BAD;
            case 16: return x.shift(0, -61) == TourSolver.BAD;
            default: return x.shift(bad, -61) == TourSolver.BAD;
        }
    }

    private static void askingChangesNothing(int n) {
        TourSolver x = uneven(n);
        String before = Samples.view(x, n);
        Due.same("the second view, n = " + n, Samples.view(x, n), before);
    }
}
