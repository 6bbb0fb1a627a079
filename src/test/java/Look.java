/** Everything that can be asked of an object about its nodes, classes, types, values and marks, as a text to compare. */
final class Look {
    static final int[] WRONG_NODES = {-1, 16, Integer.MIN_VALUE, Integer.MAX_VALUE};
    static final int[] WRONG_TYPES = {-1, 8, 32, Integer.MIN_VALUE, Integer.MAX_VALUE};
    static final int[] WRONG_FEATURES = {-1, 3, Integer.MIN_VALUE, Integer.MAX_VALUE};

    private Look() {
    }

    static String structures(FeatureUnifier x) {
        StringBuilder text = new StringBuilder("nodes " + x.nodes() + " classes " + x.classes());
        for (int n = 0; n < x.nodes(); n++) {
            text.append(" | ").append(x.classOf(n)).append(':').append(x.typeOf(n));
            for (int f = 0; f < 3; f++) {
                text.append(' ').append(x.value(n, f));
            }
        }
        return text.toString();
    }

    static String hierarchy(FeatureUnifier x) {
        StringBuilder text = new StringBuilder();
        for (int b = 0; b < 8; b++) {
            text.append(b).append(" over");
            for (int a = 0; a < 8; a++) {
                text.append(x.isUnder(a, b) ? " " + a : "");
            }
            text.append("; ");
        }
        return text.toString();
    }

    static String all(FeatureUnifier x) {
        return structures(x) + " marks " + x.marks();
    }
}
