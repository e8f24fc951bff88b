/** Promise 6: "BAD for a number outside 0..n-1 or u = v." */
public final class EdgeUsingTest {
    public static void main(String[] args) {
        Edges.onlyPairsAreAnswered("using", TourSolver::using, n -> 60 * n, n -> 0);
        Due.end();
    }
}
