import java.util.stream.IntStream;

/** Arguments that a call has to refuse. */
final class Wrong {
    private Wrong() {
    }

    /**
     * Numbers outside a range: its neighbours, the ends of int, and those that a shift, a mask, a cast
     * or a product by 6 or 10 would wrap back into it.
     */
    static int[] outside(int from, int to) {
        int min = Integer.MIN_VALUE;
        int max = Integer.MAX_VALUE;
        return IntStream.of(
                from - 1, from - 2, to + 1, to + 2, from - 6, to + 6, to + 10, ~from, -to,
                from - 32, to + 32, from - 64, to + 64, from + 256, from + 65536,
                from ^ min, to ^ min, 715827883, 429496730, min, min + 1, max, max - 1)
            .filter(k -> k < from || k > to).distinct().toArray();
    }
}
