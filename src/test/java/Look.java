/** What can be asked of an object, as a text to compare. */
final class Look {
    private Look() {
    }

    static String structures(FeatureUnifier x) {
        int count = x.nodes();
        StringBuilder text = new StringBuilder("nodes " + count + " classes " + x.classes());
        for (int n = 0; n < count; n++) {
            text.append(" | ").append(x.classOf(n)).append(':').append(x.typeOf(n));
            for (int f = 0; f < 3; f++) {
                text.append(' ').append(x.value(n, f));
            }
        }
        return text.toString();
    }

    static String hierarchy(FeatureUnifier x) {
        StringBuilder text = new StringBuilder();
        for (int b = 0; b < 8; b++) {
            text.append(b).append(" over");
            for (int a = 0; a < 8; a++) {
                text.append(x.isUnder(a, b) ? " " + a : "");
            }
            text.append("; ");
        }
        return text.toString();
    }

    static String all(FeatureUnifier x) {
        return structures(x) + " marks " + x.marks();
    }

    /** All of it, and what each mark has kept; the marks are used up by this. */
    static String downToTheLastMark(FeatureUnifier x) {
        StringBuilder text = new StringBuilder(hierarchy(x)).append(all(x));
        int marks = x.marks();
        for (int k = 0; k < marks; k++) {
            text.append(" back ").append(x.back()).append(' ').append(structures(x));
        }
        return text.toString();
    }
}
