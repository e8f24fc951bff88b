/** Promise 10: the smallest sum of n - 1 pairs over which any town can be come to from any other. */
public final class NetTest {
    public static void main(String[] args) {
        Due.same("net(), four towns", Samples.fourTowns().net(), 7);
        for (int n = 3; n <= 7; n++) {
            Due.same("net(), all 60", new TourSolver(n).net(), 60 * (n - 1));
            Due.same("net(), all 0", Samples.zeros(n).net(), 0);
        }
        shortPairsInARing();
        star();
        Due.end();
    }

    private static void shortPairsInARing() {
        TourSolver x = new TourSolver(5);
        x.road(1, 2, 1);
        x.road(2, 3, 1);
        x.road(3, 1, 1);
        // The third of these pairs joins nothing new.
        Due.same("net(), a ring of three", x.net(), 122);
        x.road(3, 4, 20);
        x.road(1, 4, 10);
        Due.same("net(), town 4 at 10", x.net(), 72);
        x.road(0, 4, 9);
        Due.same("net(), town 0 at 9", x.net(), 21);
    }

    private static void star() {
        for (int centre = 0; centre < 7; centre++) {
            TourSolver x = new TourSolver(7);
            int sum = 0;
            for (int v = 0; v < 7; v++) {
                if (v != centre) {
                    x.road(centre, v, 10 + v);
                    sum += 10 + v;
                }
            }
            Due.same("net(), a star around " + centre, x.net(), sum);
        }
    }
}
