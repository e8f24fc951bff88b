/** Promise 12: "A call that is refused, because a number is not as said there, something is not there, or a limit is reached, changes nothing." */
public final class RefusedTest {
    private static final int CALLS_WITH_NO_TOWN = 13;

    public static void main(String[] args) {
        for (int n = 3; n <= 7; n++) {
            wrongTowns(n);
            sameTownTwice(n);
            wrongLengths(n);
            wrongMore(n);
            askingChangesNothing(n);
        }
        avoidingAmongThree();
        Due.end();
    }

    /** One object, on which refused calls are made and which is looked at after each. */
    private static final class Watched {
        private final TourSolver x;
        private final int n;
        private final String before;

        Watched(int n) {
            this.n = n;
            x = Samples.uneven(n);
            before = Samples.view(x, n);
        }

        void isRefused(String call, boolean refused) {
            Due.yes("n = " + n + ": " + call + " is refused", refused);
            Due.same("n = " + n + ": after " + call, Samples.view(x, n), before);
        }
    }

    private static void wrongTowns(int n) {
        for (int bad : Edges.noTowns(n)) {
            for (int which = 0; which < CALLS_WITH_NO_TOWN; which++) {
                Watched w = new Watched(n);
                w.isRefused("call " + which + " with " + bad, isRefused(w.x, which, bad, n));
            }
        }
    }

    private static boolean isRefused(TourSolver x, int which, int bad, int n) {
        switch (which) {
            case 0: return !x.road(0, bad, 1);
            case 1: return !x.road(bad, n - 1, 1);
            case 2: return !x.road(bad, bad, 1);
            case 3: return x.town(bad) == TourSolver.BAD;
            case 4: return x.using(0, bad) == TourSolver.BAD;
            case 5: return x.using(bad, n - 1) == TourSolver.BAD;
            case 6: return x.avoiding(0, bad) == TourSolver.BAD;
            case 7: return x.avoiding(bad, n - 1) == TourSolver.BAD;
            case 8: return x.walk(0, bad) == TourSolver.BAD;
            case 9: return x.walk(bad, n - 1) == TourSolver.BAD;
            case 10: return x.shift(bad, 5) == TourSolver.BAD;
            case 11: return x.shift(bad, -5) == TourSolver.BAD;
            default: return x.shift(bad, 0) == TourSolver.BAD;
        }
    }

    private static void sameTownTwice(int n) {
        for (int u = 0; u < n; u++) {
            Watched w = new Watched(n);
            String pair = "(" + u + ", " + u + ")";
            w.isRefused("road" + pair, !w.x.road(u, u, 1));
            w.isRefused("using" + pair, w.x.using(u, u) == TourSolver.BAD);
            w.isRefused("avoiding" + pair, w.x.avoiding(u, u) == TourSolver.BAD);
            w.isRefused("walk" + pair, w.x.walk(u, u) == TourSolver.BAD);
        }
    }

    private static void wrongLengths(int n) {
        for (int length : Edges.outside(0, 60)) {
            Watched w = new Watched(n);
            w.isRefused("road(0, n - 1, " + length + ")", !w.x.road(0, n - 1, length));
            w.isRefused("road(2, 1, " + length + ")", !w.x.road(2, 1, length));
            w.isRefused("road(1, 1, " + length + ")", !w.x.road(1, 1, length));
        }
    }

    private static void wrongMore(int n) {
        for (int more : Edges.outside(-60, 60)) {
            Watched w = new Watched(n);
            w.isRefused("shift(0, " + more + ")", w.x.shift(0, more) == TourSolver.BAD);
            w.isRefused("shift(n - 1, " + more + ")", w.x.shift(n - 1, more) == TourSolver.BAD);
            w.isRefused("shift(n, " + more + ")", w.x.shift(n, more) == TourSolver.BAD);
        }
    }

    private static void avoidingAmongThree() {
        Watched w = new Watched(3);
        for (int u = 0; u < 3; u++) {
            for (int v = 0; v < 3; v++) {
                w.isRefused("avoiding(" + u + ", " + v + ")", w.x.avoiding(u, v) == TourSolver.BAD);
            }
        }
    }

    private static void askingChangesNothing(int n) {
        TourSolver x = Samples.uneven(n);
        String before = Samples.view(x, n);
        Due.same("the second view, n = " + n, Samples.view(x, n), before);
    }
}
