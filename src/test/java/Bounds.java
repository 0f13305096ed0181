import java.util.function.IntToLongFunction;

/** Numbers on either side of a bound. */
final class Bounds {
    private Bounds() {
    }

    /** What lies outside is refused: the first on either side, far ones, and those that are inside if cut to 8 or 16 bits. */
    static void refused(String what, int least, int most, long refusal, IntToLongFunction asked) {
        int[] outside = {least - 1, most + 1, least - 256, most + 256, least - 65536, most + 65536,
            Integer.MIN_VALUE, Integer.MIN_VALUE + 1, Integer.MAX_VALUE - 1, Integer.MAX_VALUE};
        for (int v : outside) Due.is(what + " " + v, asked.applyAsLong(v), refusal);
    }

    /** The least and the most are taken, and answer as these. */
    static void taken(String what, int least, int most, long byLeast, long byMost, IntToLongFunction asked) {
        Due.is(what + " " + least, asked.applyAsLong(least), byLeast);
        Due.is(what + " " + most, asked.applyAsLong(most), byMost);
    }
}
