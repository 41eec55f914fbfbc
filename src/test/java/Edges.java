import java.util.Arrays;
import java.util.Set;
import java.util.TreeSet;
import java.util.function.IntPredicate;
import java.util.stream.IntStream;

/** Numbers at which a range check, a narrowing or a shift count may go wrong. */
final class Edges {
    static final int MIN = Integer.MIN_VALUE;
    static final int MAX = Integer.MAX_VALUE;

    private static final int[] BESIDE = {-2, -1, 0, 1, 2, 7};
    private static final int[] ALL = collect();

    private static int[] collect() {
        Set<Integer> all = new TreeSet<>();
        for (int i = -20; i <= 40; i++) {
            all.add(i);
        }
        // The power 31 wraps to the least int, and what stands beside it to the greatest.
        for (int power = 5; power <= 31; power++) {
            for (int step : BESIDE) {
                all.add((1 << power) + step);
                all.add(-(1 << power) + step);
            }
        }
        return all.stream().mapToInt(Integer::intValue).toArray();
    }

    static int[] ints() {
        return ALL.clone();
    }

    static int[] outside(int bound) {
        return those(i -> i < 0 || i >= bound);
    }

    static int[] those(IntPredicate wanted) {
        return Arrays.stream(ALL).filter(wanted).toArray();
    }

    static int[] from(int first, int last) {
        return IntStream.rangeClosed(first, last).toArray();
    }

    /** The outermost ints and those next to the range 0..bound-1. */
    static int[] nearest(int bound) {
        return new int[] {MIN, -1, bound, MAX};
    }
}
