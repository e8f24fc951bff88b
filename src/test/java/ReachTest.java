/** Promise 9: the smallest k such that pairs of lengths up to k lead from any town to any other. */
public final class ReachTest {
    public static void main(String[] args) {
        Due.same("reach(), four towns", Samples.fourTowns().reach(), 4);
        for (int n = 3; n <= 7; n++) {
            Due.same("reach(), all 60", new TourSolver(n).reach(), 60);
            Due.same("reach(), all 0", Samples.zeros(n).reach(), 0);
        }
        twoIslands();
        oneBridge();
        lonelyTown();
        Due.end();
    }

    private static void twoIslands() {
        TourSolver x = new TourSolver(6);
        x.road(0, 2, 1);
        x.road(2, 4, 1);
        x.road(1, 3, 2);
        x.road(3, 5, 2);
        Due.same("reach(), two islands", x.reach(), 60);
        x.road(4, 5, 30);
        Due.same("reach(), a bridge of 30", x.reach(), 30);
        x.road(0, 1, 29);
        Due.same("reach(), a bridge of 29", x.reach(), 29);
        x.road(2, 3, 0);
        Due.same("reach(), a bridge of 0", x.reach(), 2);
    }

    private static void oneBridge() {
        for (int n = 3; n <= 7; n++) {
            for (int place = 0; place + 1 < n; place++) {
                for (int k = 0; k <= 60; k++) {
                    TourSolver x = new TourSolver(n);
                    for (int u = 0; u + 1 < n; u++) {
                        x.road(u, u + 1, u == place ? k : 0);
                    }
                    String told = "n = " + n + ", a bridge of " + k + " at " + place + ": ";
                    Due.same(told + "reach()", x.reach(), k);
                    Due.same(told + "net()", x.net(), k);
                }
            }
        }
    }

    private static void lonelyTown() {
        for (int u = 0; u < 7; u++) {
            TourSolver x = Samples.zeros(7);
            x.shift(u, 13);
            Due.same("reach() after shift(" + u + ", 13)", x.reach(), 13);
            x.road(u, (u + 3) % 7, 12);
            Due.same("reach() with one way of 12", x.reach(), 12);
        }
    }
}
