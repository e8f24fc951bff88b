/** Promise 11: "u outside 0..n-1 or more outside -60..60: BAD." */
public final class EdgeShiftRefusedTest {
    public static void main(String[] args) {
        for (int n = 3; n <= 7; n++) {
            for (int more = -60; more <= 60; more++) {
                everyU(n, more, true);
            }
            for (int more : Edges.outside(-60, 60)) {
                everyU(n, more, false);
            }
        }
        Due.end();
    }

    private static void everyU(int n, int more, boolean moreIsRight) {
        for (int u : Edges.townsAndNoTowns(n)) {
            if (moreIsRight && Edges.isInside(u, 0, n - 1)) {
                answersHowMany(n, u, more);
            } else {
                answersBad(n, u, more);
            }
        }
    }

    private static void answersHowMany(int n, int u, int more) {
        Due.same(told(n, u, more), Samples.even(n, 30).shift(u, more), more == 0 ? 0 : n - 1);
    }

    private static void answersBad(int n, int u, int more) {
        TourSolver x = Samples.even(n, 30);
        Due.same(told(n, u, more), x.shift(u, more), TourSolver.BAD);
        Due.same(told(n, u, more) + ", then shortest()", x.shortest(), 30 * n);
        Due.same(told(n, u, more) + ", then trips()", x.trips(), Samples.factorial(n - 1));
        Due.same(told(n, u, more) + ", then net()", x.net(), 30 * (n - 1));
    }

    private static String told(int n, int u, int more) {
        return "n = " + n + ", all 30: shift(" + u + ", " + more + ")";
    }
}
