/** Objects to begin a test with. */
final class Make {
    private Make() {
    }

    static FeatureUnifier nodes(int... types) {
        FeatureUnifier x = new FeatureUnifier();
        addNodes(x, types);
        return x;
    }

    static void addNodes(FeatureUnifier x, int... types) {
        for (int type : types) {
            x.node(type);
        }
    }

    /** This many nodes of type 0. */
    static FeatureUnifier plain(int count) {
        return nodes(new int[count]);
    }

    /** Type 3 is the meet of 1 and 2, and there are five nodes with three values. */
    static FeatureUnifier structure() {
        FeatureUnifier x = new FeatureUnifier();
        x.under(3, 1);
        x.under(3, 2);
        addNodes(x, 1, 2, 0, 3, 0);
        x.arc(0, 0, 2);
        x.arc(1, 0, 3);
        x.arc(1, 1, 4);
        return x;
    }

    /** As many nodes as there can be, each a value of the one before it. */
    static FeatureUnifier chain() {
        FeatureUnifier x = plain(16);
        for (int n = 0; n < 15; n++) {
            x.arc(n, 0, n + 1);
        }
        return x;
    }
}
