/** Promise 11: shift adds to all lengths of a town and answers how many changed. */
public final class ShiftTest {
    public static void main(String[] args) {
        ordinary();
        cutOffAtTheEnds();
        nothingChanges();
        Due.end();
    }

    private static void ordinary() {
        TourSolver x = Samples.fourTowns();
        Due.same("shift(1, 5)", x.shift(1, 5), 3);
        Due.same("lengths", Samples.lengths(x, 4), "0-1 6, 0-2 2, 0-3 4, 1-2 13, 1-3 21, 2-3 32, ");
        Due.same("shift(0, -2)", x.shift(0, -2), 3);
        Due.same("lengths", Samples.lengths(x, 4), "0-1 4, 0-2 0, 0-3 2, 1-2 13, 1-3 21, 2-3 32, ");
        Due.same("length from 1 to 0", Samples.length(x, 1, 0), 4);
        Due.same("shift(3, 1)", x.shift(3, 1), 3);
        Due.same("lengths", Samples.lengths(x, 4), "0-1 4, 0-2 0, 0-3 3, 1-2 13, 1-3 22, 2-3 33, ");
    }

    private static void cutOffAtTheEnds() {
        TourSolver x = Samples.fourTowns();
        Due.same("shift(3, 29)", x.shift(3, 29), 3);
        Due.same("lengths", Samples.lengths(x, 4), "0-1 1, 0-2 2, 0-3 33, 1-2 8, 1-3 45, 2-3 60, ");
        Due.same("shift(3, 1)", x.shift(3, 1), 2);
        Due.same("lengths", Samples.lengths(x, 4), "0-1 1, 0-2 2, 0-3 34, 1-2 8, 1-3 46, 2-3 60, ");
        Due.same("shift(0, -2)", x.shift(0, -2), 3);
        Due.same("lengths", Samples.lengths(x, 4), "0-1 0, 0-2 0, 0-3 32, 1-2 8, 1-3 46, 2-3 60, ");
        Due.same("shift(0, -3)", x.shift(0, -3), 1);
        Due.same("lengths", Samples.lengths(x, 4), "0-1 0, 0-2 0, 0-3 29, 1-2 8, 1-3 46, 2-3 60, ");
    }

    private static void nothingChanges() {
        TourSolver x = Samples.fourTowns();
        Due.same("shift(2, 0)", x.shift(2, 0), 0);
        Due.same("lengths", Samples.lengths(x, 4), "0-1 1, 0-2 2, 0-3 4, 1-2 8, 1-3 16, 2-3 32, ");
        Due.same("shift(2, 1), all 60", new TourSolver(5).shift(2, 1), 0);
        Due.same("shift(2, -1), all 0", Samples.zeros(5).shift(2, -1), 0);
    }
}
