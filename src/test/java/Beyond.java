import java.util.Arrays;
import java.util.TreeSet;

/** Numbers that are not within a range, those first that a careless test of it would let through. */
final class Beyond {
    private Beyond() {
    }

    /** One too small, one too large, the ends of int, and such as are within again if bits of them are lost. */
    static int[] range(int least, int most) {
        TreeSet<Integer> numbers = new TreeSet<>();
        int[] farOff = {Integer.MIN_VALUE, Integer.MIN_VALUE + 1, Integer.MAX_VALUE, Integer.MAX_VALUE - 1};
        for (int n : farOff) {
            numbers.add(n);
        }
        int[] wraps = {1, 10, 32, 64, 100, 128, 256, 1000, 32768, 65536, 65537, 1 << 24, 1 << 30};
        for (int wrap : wraps) {
            numbers.add(least - wrap);
            numbers.add(most + wrap);
            numbers.add(least + wrap);
            numbers.add(most - wrap);
        }
        numbers.add(-least);
        numbers.add(-most);
        numbers.add(~least);
        numbers.add(~most);
        numbers.add(least + Integer.MIN_VALUE);
        numbers.add(most + Integer.MIN_VALUE);
        numbers.removeIf(n -> n >= least && n <= most);
        int[] row = new int[numbers.size()];
        int count = 0;
        for (int n : numbers) {
            row[count++] = n;
        }
        return row;
    }

    static int[] and(int[] row, int... more) {
        int[] both = Arrays.copyOf(row, row.length + more.length);
        System.arraycopy(more, 0, both, row.length, more.length);
        return both;
    }
}
