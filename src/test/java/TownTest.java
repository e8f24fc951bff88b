/** Promise 4: town k of the first of the trips with the smallest length. */
public final class TownTest {
    public static void main(String[] args) {
        TourSolver x = Samples.fourTowns();
        isTrip("four towns", x, 0, 2, 1, 3);
        x.road(0, 2, 40);
        isTrip("four towns, 0-2 is 40", x, 0, 1, 2, 3);
        x.road(1, 2, 60);
        isTrip("four towns, 1-2 is 60", x, 0, 1, 3, 2);
        isTrip("all 0", Samples.zeros(7), 0, 1, 2, 3, 4, 5, 6);
        firstOfSeveral();
        Due.end();
    }

    private static void firstOfSeveral() {
        TourSolver x = new TourSolver(5);
        x.road(0, 3, 10);
        isTrip("0-3 short", x, 0, 1, 2, 4, 3);
        x.road(3, 1, 10);
        isTrip("0-3 and 3-1 short", x, 0, 2, 4, 1, 3);
        x.road(3, 1, 60);
        x.road(2, 4, 10);
        isTrip("0-3 and 2-4 short", x, 0, 1, 2, 4, 3);
        x.road(4, 1, 0);
        isTrip("0-3, 2-4 and 4-1 short", x, 0, 1, 4, 2, 3);
    }

    private static void isTrip(String name, TourSolver x, int... towns) {
        for (int k = 0; k < towns.length; k++) {
            Due.same(name + ": town(" + k + ")", x.town(k), towns[k]);
        }
    }
}
