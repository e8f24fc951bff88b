/** Shortest round trips through a few towns. */
public final class TourSolver {
    public static final int BAD = -1;

    private static final int FEWEST_TOWNS = 3;
    private static final int MOST_TOWNS = 7;
    private static final int CELLS = MOST_TOWNS * MOST_TOWNS;
    private static final int LONGEST = 60;
    // The trips through seven towns: town 0 stands first, the other six in any order.
    private static final int MOST_TRIPS = 720;
    // More than any length, trip or walk can have, so that the first one seen is always shorter.
    private static final int ENDLESS = 1000;

    private static final int ANY_TRIP = 0;
    private static final int TRIP_USING = 1;
    private static final int TRIP_AVOIDING = 2;

    private final int n;
    // Each length is held twice, for both directions, so that a look-up needs no ordering.
    private final int[] lengths = new int[CELLS];

    // What follows is worked out anew by every call that reads it.
    private final int[] trip = new int[MOST_TOWNS];
    private final int[] bestTrip = new int[MOST_TOWNS];
    private int bestLength;
    private int bestCount;

    private final int[] gap = new int[MOST_TOWNS];
    private final boolean[] joined = new boolean[MOST_TOWNS];
    private int netSum;
    private int netLongest;

    public TourSolver(int towns) {
        n = clamp(towns, FEWEST_TOWNS, MOST_TOWNS);
        for (int i = 0; i < CELLS; i++) {
            lengths[i] = LONGEST;
        }
    }

    public boolean road(int u, int v, int length) {
        if (!isPair(u, v) || length < 0 || length > LONGEST) {
            return false;
        }
        setLength(u, v, length);
        return true;
    }

    public int shortest() {
        findBest(ANY_TRIP, 0, 0);
        return bestLength;
    }

    public int town(int k) {
        if (!isTown(k)) {
            return BAD;
        }
        findBest(ANY_TRIP, 0, 0);
        return bestTrip[k];
    }

    public int trips() {
        findBest(ANY_TRIP, 0, 0);
        return bestCount;
    }

    public int using(int u, int v) {
        if (!isPair(u, v)) {
            return BAD;
        }
        findBest(TRIP_USING, u, v);
        return bestLength;
    }

    public int avoiding(int u, int v) {
        // Among three towns every two stand side by side in every trip.
        if (!isPair(u, v) || n == FEWEST_TOWNS) {
            return BAD;
        }
        findBest(TRIP_AVOIDING, u, v);
        return bestLength;
    }

    public int walk(int u, int v) {
        if (!isPair(u, v)) {
            return BAD;
        }
        // A walk from u to v, closed by the way from v back to u, is a trip that uses u and v
        // side by side, and every such trip comes from a walk in this way.
        findBest(TRIP_USING, u, v);
        return bestLength - lengthBetween(u, v);
    }

    public int reach() {
        growNet();
        // No other net has a shorter longest pair than the one with the smallest sum.
        return netLongest;
    }

    public int net() {
        growNet();
        return netSum;
    }

    public int shift(int u, int more) {
        if (!isTown(u) || more < -LONGEST || more > LONGEST) {
            return BAD;
        }
        int changed = 0;
        for (int v = 0; v < n; v++) {
            if (v != u && shiftLength(u, v, more)) {
                changed++;
            }
        }
        return changed;
    }

    private static int clamp(int number, int low, int high) {
        if (number < low) {
            return low;
        }
        return number > high ? high : number;
    }

    private boolean isTown(int u) {
        return u >= 0 && u < n;
    }

    private boolean isPair(int u, int v) {
        return isTown(u) && isTown(v) && u != v;
    }

    private int lengthBetween(int u, int v) {
        return lengths[u * MOST_TOWNS + v];
    }

    private void setLength(int u, int v, int length) {
        lengths[u * MOST_TOWNS + v] = length;
        lengths[v * MOST_TOWNS + u] = length;
    }

    private boolean shiftLength(int u, int v, int more) {
        int before = lengthBetween(u, v);
        int after = clamp(before + more, 0, LONGEST);
        setLength(u, v, after);
        return after != before;
    }

    /** Goes through the trips in their order; u and v count only where the kind speaks of them. */
    private void findBest(int kind, int u, int v) {
        bestLength = ENDLESS;
        bestCount = 0;
        toFirstTrip();
        boolean more = true;
        for (int i = 0; more && i < MOST_TRIPS; i++) {
            if (kind == ANY_TRIP || tripUses(u, v) == (kind == TRIP_USING)) {
                compareTripWithBest();
            }
            more = toNextTrip();
        }
    }

    private void compareTripWithBest() {
        int length = tripLength();
        if (length == bestLength) {
            bestCount++;
        }
        // An equally long trip that comes later must not take the place of the first one.
        if (length < bestLength) {
            bestLength = length;
            bestCount = 1;
            for (int i = 0; i < n; i++) {
                bestTrip[i] = trip[i];
            }
        }
    }

    private int tripLength() {
        int sum = lengthBetween(trip[n - 1], trip[0]);
        for (int i = 1; i < n; i++) {
            sum += lengthBetween(trip[i - 1], trip[i]);
        }
        return sum;
    }

    private boolean tripUses(int u, int v) {
        int before = trip[n - 1];
        for (int i = 0; i < n; i++) {
            int here = trip[i];
            if ((before == u && here == v) || (before == v && here == u)) {
                return true;
            }
            before = here;
        }
        return false;
    }

    private void toFirstTrip() {
        for (int i = 0; i < n; i++) {
            trip[i] = i;
        }
    }

    /** Makes the trip the next one in the order; false, and no change, if it was the last. */
    private boolean toNextTrip() {
        int place = lastPlaceThatCanGrow();
        // Place 0 is town 0's in every trip.
        if (place == 0) {
            return false;
        }
        int other = lastPlaceWithGreaterTown(place);
        swapPlaces(place, other);
        // The towns behind the place fall; turned round they rise, which is their first order.
        int swaps = (n - 1 - place) / 2;
        for (int i = 1; i <= swaps; i++) {
            swapPlaces(place + i, n - i);
        }
        return true;
    }

    private int lastPlaceThatCanGrow() {
        for (int i = n - 2; i > 0; i--) {
            if (trip[i] < trip[i + 1]) {
                return i;
            }
        }
        return 0;
    }

    private int lastPlaceWithGreaterTown(int place) {
        for (int i = n - 1; i > place; i--) {
            if (trip[i] > trip[place]) {
                return i;
            }
        }
        return place;
    }

    private void swapPlaces(int i, int j) {
        int kept = trip[i];
        trip[i] = trip[j];
        trip[j] = kept;
    }

    /** Joins all towns to town 0, always the one next that is nearest to those already joined. */
    private void growNet() {
        netSum = 0;
        netLongest = 0;
        for (int t = 0; t < n; t++) {
            gap[t] = ENDLESS;
            joined[t] = false;
        }
        join(0);
        for (int i = 1; i < n; i++) {
            int nearest = nearestTownOutside();
            netSum += gap[nearest];
            if (gap[nearest] > netLongest) {
                netLongest = gap[nearest];
            }
            join(nearest);
        }
    }

    private void join(int u) {
        joined[u] = true;
        for (int t = 0; t < n; t++) {
            int length = lengthBetween(u, t);
            if (!joined[t] && length < gap[t]) {
                gap[t] = length;
            }
        }
    }

    private int nearestTownOutside() {
        int nearest = 0;
        int least = ENDLESS;
        for (int t = 1; t < n; t++) {
            if (!joined[t] && gap[t] < least) {
                least = gap[t];
                nearest = t;
            }
        }
        return nearest;
    }
}
