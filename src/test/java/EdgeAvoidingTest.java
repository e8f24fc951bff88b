/** Promise 7: "BAD for a number outside 0..n-1 or u = v, or for n = 3." */
public final class EdgeAvoidingTest {
    public static void main(String[] args) {
        Edges.onlyPairsAreAnswered("avoiding", TourSolver::avoiding,
            n -> n == 3 ? TourSolver.BAD : 60 * n,
            n -> n == 3 ? TourSolver.BAD : 0);
        numberOfTownsGivenTooSmall();
        Due.end();
    }

    private static void numberOfTownsGivenTooSmall() {
        // It is n that counts, which is 3 for all of these, and not the number handed in.
        for (int towns : new int[] {3, 2, 1, 0, -1, -4, Integer.MIN_VALUE}) {
            TourSolver x = new TourSolver(towns);
            Due.same("new TourSolver(" + towns + "): avoiding(0, 1)", x.avoiding(0, 1), TourSolver.BAD);
            Due.same("new TourSolver(" + towns + "): avoiding(2, 1)", x.avoiding(2, 1), TourSolver.BAD);
        }
        Due.same("new TourSolver(4): avoiding(0, 1)", new TourSolver(4).avoiding(0, 1), 240);
    }
}
