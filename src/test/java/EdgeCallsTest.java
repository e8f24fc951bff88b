/** What it is: "An object is used for at most 512 calls after it has been made; what later calls answer is free." */
public final class EdgeCallsTest {
    private static final int MOST_CALLS = 512;
    private static final int CALLS_TO_MAKE_SAMPLE = 6;
    private static final int FILLINGS = 8;
    private static final int LAST_CALLS = 12;

    public static void main(String[] args) {
        for (int filling = 0; filling < FILLINGS; filling++) {
            for (int last = 0; last < LAST_CALLS; last++) {
                // The call directly before the limit, and the very last one.
                lastCall(filling, last, MOST_CALLS - 1);
                lastCall(filling, last, MOST_CALLS);
            }
        }
        laterCallsEnd();
        Due.end();
    }

    private static void lastCall(int filling, int last, int number) {
        TourSolver x = Samples.fourTowns();
        for (int i = CALLS_TO_MAKE_SAMPLE + 1; i < number; i++) {
            fill(x, filling, i);
        }
        check("call " + number + " after filling " + filling + ": ", x, last);
    }

    /** Calls of many kinds that leave the lengths as they are. */
    private static void fill(TourSolver x, int filling, int i) {
        switch (filling) {
            case 0: Due.no("road(0, 4, 1)", x.road(0, 4, 1)); break;
            case 1: Due.same("shift(4, 1)", x.shift(4, 1), TourSolver.BAD); break;
            case 2: Due.yes("road(1, 0, 1)", x.road(1, 0, 1)); break;
            case 3: Due.same("shift(3, 0)", x.shift(3, 0), 0); break;
            case 4: Due.same("town(1)", x.town(1), 2); break;
            case 5: Due.same("walk(2, 3)", x.walk(2, 3), 13); break;
            case 6: Due.same("net()", x.net(), 7); break;
            default: check("call " + i + ": ", x, i % 9);
        }
    }

    private static void check(String told, TourSolver x, int which) {
        switch (which) {
            case 0: Due.same(told + "shortest()", x.shortest(), 30); break;
            case 1: Due.same(told + "town(3)", x.town(3), 3); break;
            case 2: Due.same(told + "trips()", x.trips(), 2); break;
            case 3: Due.same(told + "using(0, 1)", x.using(0, 1), 45); break;
            case 4: Due.same(told + "avoiding(0, 3)", x.avoiding(0, 3), 51); break;
            case 5: Due.same(told + "walk(0, 1)", x.walk(0, 1), 44); break;
            case 6: Due.same(told + "reach()", x.reach(), 4); break;
            case 7: Due.same(told + "net()", x.net(), 7); break;
            case 8: Due.same(told + "shift(2, 61)", x.shift(2, 61), TourSolver.BAD); break;
            case 9: Due.yes(told + "road(0, 1, 60)", x.road(0, 1, 60)); break;
            case 10: Due.no(told + "road(0, 1, 61)", x.road(0, 1, 61)); break;
            default: Due.same(told + "shift(0, 60)", x.shift(0, 60), 3);
        }
    }

    /** Whatever they answer: LANGUAGE.md lets no call throw or fail to end, in any state. */
    private static void laterCallsEnd() {
        TourSolver x = new TourSolver(7);
        for (int i = 0; i < 4 * MOST_CALLS; i++) {
            x.road(i % 7, (i + 1) % 7, i % 61);
            x.shift(i % 7, i % 121 - 60);
            x.shortest();
            x.town(i % 9 - 1);
            x.trips();
            x.using(i % 7, i % 8);
            x.avoiding(i % 7, i % 8);
            x.walk(i % 7, i % 8);
            x.reach();
            x.net();
        }
    }
}
