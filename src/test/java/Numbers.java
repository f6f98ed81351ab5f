import java.util.TreeSet;

/** The numbers at and around the edges: small ones, and those near every power of two, where arithmetic wraps around. */
final class Numbers {
    private Numbers() {
    }

    static int[] wide() {
        TreeSet<Integer> numbers = new TreeSet<>();
        for (int power = 0; power < 32; power++) {
            for (int more = -3; more <= 10; more++) {
                numbers.add((1 << power) + more);
                numbers.add(-(1 << power) + more);
            }
        }
        return numbers.stream().mapToInt(Integer::intValue).toArray();
    }

    /** Those of the wide numbers that are not in 0..bound-1; -1 and the bound are among them. */
    static int[] outside(int bound) {
        TreeSet<Integer> numbers = new TreeSet<>();
        for (int number : wide()) {
            if (number < 0 || number >= bound) {
                numbers.add(number);
            }
        }
        return numbers.stream().mapToInt(Integer::intValue).toArray();
    }
}
