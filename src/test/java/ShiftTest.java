/** Promise 11: shift adds to all lengths of a town and answers how many changed. */
public final class ShiftTest {
    public static void main(String[] args) {
        ordinary();
        cutOffAtTheEnds();
        nothingChanges();
        edgesOfMore();
        wrongNumbers();
        Due.end();
    }

    private static void ordinary() {
        TourSolver x = Samples.fourTowns();
        Due.same("shift(1, 5)", x.shift(1, 5), 3);
        Due.same("lengths", Samples.lengths(x, 4), "0-1 6, 0-2 2, 0-3 4, 1-2 13, 1-3 21, 2-3 32, ");
        Due.same("shift(0, -2)", x.shift(0, -2), 3);
        Due.same("lengths", Samples.lengths(x, 4), "0-1 4, 0-2 0, 0-3 2, 1-2 13, 1-3 21, 2-3 32, ");
        Due.same("length from 1 to 0", Samples.length(x, 1, 0), 4);
        Due.same("shift(3, 1)", x.shift(3, 1), 3);
        Due.same("lengths", Samples.lengths(x, 4), "0-1 4, 0-2 0, 0-3 3, 1-2 13, 1-3 22, 2-3 33, ");
    }

    private static void cutOffAtTheEnds() {
        TourSolver x = Samples.fourTowns();
        Due.same("shift(3, 29)", x.shift(3, 29), 3);
        Due.same("lengths", Samples.lengths(x, 4), "0-1 1, 0-2 2, 0-3 33, 1-2 8, 1-3 45, 2-3 60, ");
        Due.same("shift(3, 1)", x.shift(3, 1), 2);
        Due.same("lengths", Samples.lengths(x, 4), "0-1 1, 0-2 2, 0-3 34, 1-2 8, 1-3 46, 2-3 60, ");
        Due.same("shift(0, -2)", x.shift(0, -2), 3);
        Due.same("lengths", Samples.lengths(x, 4), "0-1 0, 0-2 0, 0-3 32, 1-2 8, 1-3 46, 2-3 60, ");
        Due.same("shift(0, -3)", x.shift(0, -3), 1);
        Due.same("lengths", Samples.lengths(x, 4), "0-1 0, 0-2 0, 0-3 29, 1-2 8, 1-3 46, 2-3 60, ");
    }

    private static void nothingChanges() {
        TourSolver x = Samples.fourTowns();
        Due.same("shift(2, 0)", x.shift(2, 0), 0);
        Due.same("lengths", Samples.lengths(x, 4), "0-1 1, 0-2 2, 0-3 4, 1-2 8, 1-3 16, 2-3 32, ");
        Due.same("shift(2, 1), all 60", new TourSolver(5).shift(2, 1), 0);
        Due.same("shift(2, -1), all 0", Samples.zeros(5).shift(2, -1), 0);
    }

    private static void edgesOfMore() {
        for (int n = 3; n <= 7; n++) {
            for (int u = 0; u < n; u++) {
                TourSolver x = new TourSolver(n);
                Due.same("shift(" + u + ", -60)", x.shift(u, -60), n - 1);
                Due.same("net()", x.net(), 0);
                Due.same("shift(" + u + ", 60)", x.shift(u, 60), n - 1);
                Due.same("net()", x.net(), 60 * (n - 1));
                Due.same("shift(" + u + ", -59)", x.shift(u, -59), n - 1);
                Due.same("net()", x.net(), n - 1);
                Due.same("shift(" + u + ", 60)", x.shift(u, 60), n - 1);
                Due.same("net()", x.net(), 60 * (n - 1));
            }
        }
    }

    private static void wrongNumbers() {
        int[] wrong = {61, -61, 62, -120, 120, 1 << 20, Integer.MIN_VALUE, Integer.MAX_VALUE};
        for (int n = 3; n <= 7; n++) {
            TourSolver x = new TourSolver(n);
            x.road(0, 1, 30);
            for (int more : wrong) {
                Due.same("shift(0, " + more + ")", x.shift(0, more), TourSolver.BAD);
                Due.same("shift(n, " + more + ")", x.shift(n, more), TourSolver.BAD);
            }
            for (int u : Samples.NO_TOWNS) {
                Due.same("shift(" + u + ", -1)", x.shift(u, -1), TourSolver.BAD);
                Due.same("shift(" + u + ", 0)", x.shift(u, 0), TourSolver.BAD);
            }
            Due.same("shift(n, -1)", x.shift(n, -1), TourSolver.BAD);
            Due.same("shift(n, 0)", x.shift(n, 0), TourSolver.BAD);
            Due.same("length from 0 to 1", Samples.length(x, 0, 1), 30);
            Due.same("shortest()", x.shortest(), 60 * n - 30);
        }
    }
}
