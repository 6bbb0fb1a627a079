/** Promises 1 to 4: a new object, under, isUnder, meet. */
public final class HierarchyTest {
    public static void main(String[] args) {
        newObjectsShareNothing();
        underCounts();
        underIsTransitive();
        underRefusesPairsWithoutMeet();
        underAcceptsWhatHasAMeet();
        meets();
        Due.end();
    }

    private static void newObjectsShareNothing() {
        FeatureUnifier x = new FeatureUnifier();
        FeatureUnifier y = new FeatureUnifier();
        x.under(2, 1);
        x.node(1);
        x.mark();
        Due.is("other object: isUnder(2, 1)", y.isUnder(2, 1), false);
        Due.is("other object: nodes()", y.nodes(), 0);
        Due.is("other object: marks()", y.marks(), 0);
    }

    private static void underCounts() {
        FeatureUnifier x = new FeatureUnifier();
        Due.is("under(7, 1)", x.under(7, 1), 2);
        Due.is("under(6, 1)", x.under(6, 1), 3);
        Due.is("under(5, 6)", x.under(5, 6), 2);
        Due.is("under(1, 1)", x.under(1, 1), 4);
        Due.is("under(1, 0)", x.under(1, 0), 8);
        Due.is("under(0, 0)", x.under(0, 0), 8);
        Due.is("under(3, 3)", x.under(3, 3), 1);
    }

    private static void underIsTransitive() {
        FeatureUnifier x = new FeatureUnifier();
        x.under(3, 2);
        x.under(6, 5);
        // The last step joins two chains in their middle.
        Due.is("under(2, 6)", x.under(2, 6), 3);
        Due.is("isUnder(3, 5)", x.isUnder(3, 5), true);
        Due.is("isUnder(3, 6)", x.isUnder(3, 6), true);
        Due.is("isUnder(2, 5)", x.isUnder(2, 5), true);
        Due.is("isUnder(5, 3)", x.isUnder(5, 3), false);
        Due.is("isUnder(6, 2)", x.isUnder(6, 2), false);
        Due.is("isUnder(3, 4)", x.isUnder(3, 4), false);
        Due.is("isUnder(3, 0)", x.isUnder(3, 0), true);
        Due.is("isUnder(0, 3)", x.isUnder(0, 3), false);

        FeatureUnifier chain = new FeatureUnifier();
        for (int t = 1; t < 8; t++) {
            Due.is("chain: under(" + t + ", " + (t - 1) + ")", chain.under(t, t - 1), t == 1 ? 8 : 2);
        }
        Due.is("chain: isUnder(7, 1)", chain.isUnder(7, 1), true);
        Due.is("chain: under(7, 1)", chain.under(7, 1), 7);
    }

    private static void underRefusesPairsWithoutMeet() {
        FeatureUnifier x = new FeatureUnifier();
        x.under(3, 1);
        x.under(3, 2);
        x.under(4, 1);
        String before = Look.hierarchy(x);
        Due.is("two lower types apart: under(4, 2)", x.under(4, 2), -3);
        Due.same("hierarchy after clash", Look.hierarchy(x), before);
        Due.is("meet(1, 2) after clash", x.meet(1, 2), 3);
        // With 4 under 3 the meet stays.
        Due.is("under(4, 3)", x.under(4, 3), 2);
        Due.is("under(4, 2)", x.under(4, 2), 3);
        Due.is("meet(1, 2)", x.meet(1, 2), 3);
    }

    private static void underAcceptsWhatHasAMeet() {
        FeatureUnifier x = new FeatureUnifier();
        // Three types over one, and each two of them over one more.
        Due.is("under(4, 1)", x.under(4, 1), 2);
        Due.is("under(4, 2)", x.under(4, 2), 2);
        Due.is("under(5, 2)", x.under(5, 2), 3);
        Due.is("under(5, 3)", x.under(5, 3), 2);
        Due.is("under(6, 1)", x.under(6, 1), 3);
        Due.is("under(6, 3)", x.under(6, 3), 3);
        Due.is("under(7, 4)", x.under(7, 4), 2);
        Due.is("under(7, 5) must clash: 7 and 6 are apart under 1 and 3", x.under(7, 5), -3);
        Due.is("under(7, 6) must clash: 7 and 5 are apart under 2 and 3", x.under(7, 6), -3);
        Due.is("meet(1, 2)", x.meet(1, 2), 4);
        Due.is("meet(2, 3)", x.meet(2, 3), 5);
        Due.is("meet(1, 3)", x.meet(1, 3), 6);
        Due.is("meet(4, 5)", x.meet(4, 5), -4);
    }

    private static void meets() {
        FeatureUnifier x = new FeatureUnifier();
        Due.is("meet(1, 2) of strangers", x.meet(1, 2), -4);
        Due.is("meet(5, 5)", x.meet(5, 5), 5);
        Due.is("meet(0, 0)", x.meet(0, 0), 0);
        Due.is("meet(0, 6)", x.meet(0, 6), 6);
        Due.is("meet(6, 0)", x.meet(6, 0), 6);
        x.under(1, 6);
        x.under(1, 7);
        Due.is("meet(6, 7)", x.meet(6, 7), 1);
        Due.is("meet(7, 6)", x.meet(7, 6), 1);
        Due.is("meet(6, 1)", x.meet(6, 1), 1);
        Due.is("meet(1, 6)", x.meet(1, 6), 1);
        x.under(2, 1);
        Due.is("meet(6, 7) is not the lowest", x.meet(6, 7), 1);
        Due.is("meet(7, 2)", x.meet(7, 2), 2);
        Due.is("meet(7, 3)", x.meet(7, 3), -4);
        x.node(0);
        Due.is("meet(6, 7) with a node", x.meet(6, 7), 1);
    }
}
