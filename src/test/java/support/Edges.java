import java.util.stream.IntStream;

/** Numbers at which a check of a range can go wrong. */
final class Edges {
    /** Shifts wrap around at 32 and 64, narrow types at 2^8 and 2^16, an int at 2^31. */
    private static final int[] WRAPS = {32, 64, 256, 65536, Integer.MIN_VALUE};

    private Edges() {
    }

    /** The one below, the one above, the least and the greatest int, and what wraps around into the range. */
    static int[] outside(int least, int greatest) {
        IntStream beside = IntStream.of(least - 1, greatest + 1, Integer.MIN_VALUE, Integer.MAX_VALUE);
        IntStream wrapped = IntStream.of(WRAPS).flatMap(by -> IntStream.of(least + by, greatest + by, least - by, greatest - by));
        return IntStream.concat(beside, wrapped).filter(n -> n < least || n > greatest).distinct().toArray();
    }
}
