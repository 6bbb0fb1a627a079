import java.util.Arrays;

/** Arguments out of their range: just below and above it, the answers' codes, and those that shifts and products wrap back into it. */
final class Wrong {
    // 1 << 32 is 1 << 0, and so are shifts by 64 and -32.
    static final int[] TYPES = {-1, 8, 9, -4, -8, 15, 16, 32, 39, 64, -32, 256, 1 << 30, Integer.MIN_VALUE, Integer.MAX_VALUE};
    static final int[] FEATURES = {-1, 3, 4, -3, -4, 32, 48, 1 << 30, Integer.MIN_VALUE, Integer.MAX_VALUE};
    // Three times 0x55555556 wraps to 2, three times 0xAAAAAAAB to 1.
    private static final int[] NEVER_NODES = {-1, 16, 17, -2, -4, -16, 31, 32, 48, 64, -32, 0x55555556, 0xAAAAAAAB, 1 << 30,
        Integer.MIN_VALUE, Integer.MAX_VALUE};

    private Wrong() {
    }

    /** Numbers that are no node while there are this many nodes. */
    static int[] nodes(int count) {
        if (count >= 16) {
            return NEVER_NODES.clone();
        }
        int[] wrong = Arrays.copyOf(NEVER_NODES, NEVER_NODES.length + 2);
        wrong[NEVER_NODES.length] = count;
        wrong[NEVER_NODES.length + 1] = 15;
        return wrong;
    }
}
