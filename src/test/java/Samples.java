import java.util.ArrayList;
import java.util.Arrays;
import java.util.List;

/** Objects and trips that several tests start from. */
final class Samples {
    private Samples() {
    }

    /**
     * Four towns, all lengths different. The three ways round, each with its reverse a trip:
     * 0 1 2 3 is 45 long, 0 1 3 2 is 51 long, 0 2 1 3 is 30 long.
     */
    static TourSolver fourTowns() {
        TourSolver x = new TourSolver(4);
        Due.yes("road(0, 1, 1)", x.road(0, 1, 1));
        Due.yes("road(0, 2, 2)", x.road(0, 2, 2));
        Due.yes("road(3, 0, 4)", x.road(3, 0, 4));
        Due.yes("road(1, 2, 8)", x.road(1, 2, 8));
        Due.yes("road(3, 1, 16)", x.road(3, 1, 16));
        Due.yes("road(2, 3, 32)", x.road(2, 3, 32));
        return x;
    }

    /** The length between two towns, which no method answers alone. */
    static int length(TourSolver x, int u, int v) {
        return x.using(u, v) - x.walk(u, v);
    }

    static String lengths(TourSolver x, int n) {
        StringBuilder text = new StringBuilder();
        for (int u = 0; u < n; u++) {
            for (int v = u + 1; v < n; v++) {
                text.append(u).append('-').append(v).append(' ').append(length(x, u, v)).append(", ");
            }
        }
        return text.toString();
    }

    /** All that can be seen of an object (at most 74 calls). */
    static String view(TourSolver x, int n) {
        StringBuilder text = new StringBuilder();
        text.append("shortest ").append(x.shortest()).append(" trips ").append(x.trips());
        text.append(" reach ").append(x.reach()).append(" net ").append(x.net()).append(" towns");
        for (int k = 0; k < n; k++) {
            text.append(' ').append(x.town(k));
        }
        for (int u = 0; u < n; u++) {
            for (int v = u + 1; v < n; v++) {
                text.append(", ").append(u).append('-').append(v).append(' ').append(x.using(u, v));
                text.append(' ').append(x.avoiding(u, v)).append(' ').append(x.walk(u, v));
            }
        }
        return text.toString();
    }

    static TourSolver zeros(int n) {
        TourSolver x = new TourSolver(n);
        for (int u = 0; u < n; u++) {
            x.shift(u, -60);
        }
        return x;
    }

    static TourSolver even(int n, int length) {
        TourSolver x = new TourSolver(n);
        for (int u = 0; u < n; u++) {
            for (int v = u + 1; v < n; v++) {
                x.road(u, v, length);
            }
        }
        return x;
    }

    static TourSolver uneven(int n) {
        TourSolver x = new TourSolver(n);
        for (int u = 0; u < n; u++) {
            for (int v = u + 1; v < n; v++) {
                x.road(u, v, (u * 17 + v * v * 5 + 3) % 61);
            }
        }
        return x;
    }

    /** The ways of this trip are step, 2 * step, 3 * step .. long, the last one home; all others 60. */
    static TourSolver ring(int[] trip, int step) {
        TourSolver x = new TourSolver(trip.length);
        for (int i = 0; i < trip.length; i++) {
            x.road(trip[i], trip[(i + 1) % trip.length], (i + 1) * step);
        }
        return x;
    }

    /** All trips whose second town is smaller than the last, so that they come before their reverse. */
    static List<int[]> tripsBeforeTheirReverse(int n) {
        List<int[]> found = new ArrayList<>();
        addTrips(found, new int[n], 1);
        return found;
    }

    private static void addTrips(List<int[]> found, int[] trip, int size) {
        int n = trip.length;
        if (size == n) {
            if (trip[1] < trip[n - 1]) {
                found.add(trip.clone());
            }
            return;
        }
        for (int t = 1; t < n; t++) {
            if (!holds(trip, size, t)) {
                trip[size] = t;
                addTrips(found, trip, size + 1);
            }
        }
    }

    private static boolean holds(int[] trip, int size, int town) {
        for (int i = 0; i < size; i++) {
            if (trip[i] == town) {
                return true;
            }
        }
        return false;
    }

    static String text(int[] trip) {
        return Arrays.toString(trip);
    }

    static int factorial(int k) {
        return k < 2 ? 1 : k * factorial(k - 1);
    }
}
