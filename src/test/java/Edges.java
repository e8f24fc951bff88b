import java.util.function.IntUnaryOperator;
import java.util.stream.IntStream;

/** Numbers at the ends of a range, directly beyond them and far away, and calls that try them all. */
final class Edges {
    // Seven times each of these wraps round to a small number, so that a number which is not
    // looked at before it becomes an index would hit a place that is there.
    private static final int[] WRAPPING = {613566757, 1840700270, -613566756, -1227133513};

    private Edges() {
    }

    /** A call with two numbers. */
    interface PairCall {
        int answer(TourSolver x, int u, int v);
    }

    static boolean isInside(int number, int low, int high) {
        return number >= low && number <= high;
    }

    static int[] outside(int low, int high) {
        IntStream near = IntStream.of(low - 2, low - 1, high + 1, high + 2);
        IntStream far = IntStream.of(Integer.MIN_VALUE, Integer.MIN_VALUE + 1, Integer.MAX_VALUE - 1,
            Integer.MAX_VALUE);
        // Cut down to 3, 8, 16 or 31 bits, these would be inside.
        IntStream cut = IntStream.of(3, 8, 16, 31).map(bits -> 1 << bits)
            .flatMap(step -> IntStream.of(step + low, step + high, -step + low, -step + high));
        IntStream all = IntStream.concat(IntStream.concat(near, far), IntStream.concat(cut, IntStream.of(WRAPPING)));
        return all.filter(number -> !isInside(number, low, high)).distinct().toArray();
    }

    static int[] noTowns(int n) {
        return outside(0, n - 1);
    }

    static int[] townsAndNoTowns(int n) {
        return IntStream.concat(IntStream.range(0, n), IntStream.of(noTowns(n))).toArray();
    }

    /**
     * Every pair of numbers is asked about, with all lengths 60 and with all lengths 0: BAD is due
     * unless they are two different towns, and else, of n towns, what dueOfNew and dueOfZeros say.
     */
    static void onlyPairsAreAnswered(String name, PairCall call, IntUnaryOperator dueOfNew,
            IntUnaryOperator dueOfZeros) {
        for (int n = 3; n <= 7; n++) {
            for (int u : townsAndNoTowns(n)) {
                for (int v : townsAndNoTowns(n)) {
                    boolean isPair = isInside(u, 0, n - 1) && isInside(v, 0, n - 1) && u != v;
                    String told = name + "(" + u + ", " + v + "), n = " + n;
                    Due.same(told + ", all 60", call.answer(new TourSolver(n), u, v),
                        isPair ? dueOfNew.applyAsInt(n) : TourSolver.BAD);
                    Due.same(told + ", all 0", call.answer(Samples.zeros(n), u, v),
                        isPair ? dueOfZeros.applyAsInt(n) : TourSolver.BAD);
                }
            }
        }
    }
}
