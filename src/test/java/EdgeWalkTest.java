/** Promise 8: "BAD for a number outside 0..n-1 or u = v." */
public final class EdgeWalkTest {
    public static void main(String[] args) {
        Edges.onlyPairsAreAnswered("walk", TourSolver::walk, n -> 60 * (n - 1), n -> 0);
        Due.end();
    }
}
