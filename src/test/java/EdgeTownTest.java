/** Promise 4: "Town number k (0 to n - 1, from 0) of the first of the trips with the smallest length; BAD for another k." */
public final class EdgeTownTest {
    public static void main(String[] args) {
        for (int n = 3; n <= 7; n++) {
            for (int[] trip : Samples.tripsBeforeTheirReverse(n)) {
                TourSolver x = Samples.ring(trip, 0);
                for (int k = 0; k < n; k++) {
                    Due.same(Samples.text(trip) + " is shortest: town(" + k + ")", x.town(k), trip[k]);
                }
                Due.same(Samples.text(trip) + " is shortest: town(-1)", x.town(-1), TourSolver.BAD);
                Due.same(Samples.text(trip) + " is shortest: town(n)", x.town(n), TourSolver.BAD);
            }
            anotherK(n);
        }
        Due.end();
    }

    private static void anotherK(int n) {
        TourSolver x = new TourSolver(n);
        for (int k : Edges.noTowns(n)) {
            Due.same("n = " + n + ": town(" + k + ")", x.town(k), TourSolver.BAD);
        }
        Due.same("n = " + n + ": town(0)", x.town(0), 0);
        Due.same("n = " + n + ": town(n - 1)", x.town(n - 1), n - 1);
    }
}
