/** Promises 8 and 9: unify, unifiable. */
public final class UnifyTest {
    public static void main(String[] args) {
        plain();
        takesOverValues();
        carriesOnThroughValues();
        carriesOnThroughCircles();
        carriesOnThroughLateValues();
        loopMeetsPath();
        typesMeet();
        threeTypesMeet();
        failsAtOnce();
        failsDeepDown();
        unifiableChangesNothing();
        manyMerges();
        Due.end();
    }

    private static void plain() {
        FeatureUnifier x = Make.plain(4);
        Due.is("unify(2, 1)", x.unify(2, 1), 3);
        Due.same("after unify(2, 1)", Look.structures(x),
                "nodes 4 classes 3 | 0:0 -4 -4 -4 | 1:0 -4 -4 -4 | 1:0 -4 -4 -4 | 3:0 -4 -4 -4");
        Due.is("unify(1, 2) again", x.unify(1, 2), 3);
        Due.is("unify(2, 0)", x.unify(2, 0), 2);
        Due.is("unify(3, 1)", x.unify(3, 1), 1);
    }

    private static void takesOverValues() {
        FeatureUnifier x = Make.plain(4);
        x.arc(1, 2, 3);
        x.arc(0, 0, 2);
        Due.is("unify(0, 1)", x.unify(0, 1), 3);
        Due.is("value(0, 0)", x.value(0, 0), 2);
        Due.is("value(0, 1)", x.value(0, 1), -4);
        Due.is("value(0, 2)", x.value(0, 2), 3);
        Due.is("value(1, 0)", x.value(1, 0), 2);
        Due.is("classOf(3)", x.classOf(3), 3);
        Due.is("arc(0, 2, 0)", x.arc(0, 2, 0), -2);
    }

    private static void carriesOnThroughValues() {
        FeatureUnifier x = Make.plain(8);
        // Two chains over the features 0, 1, 2, side by side.
        for (int f = 0; f < 3; f++) {
            x.arc(f, f, f + 1);
            x.arc(4 + f, f, 5 + f);
        }
        Due.is("unify(4, 0)", x.unify(4, 0), 4);
        for (int n = 0; n < 8; n++) {
            Due.is("classOf(" + n + ")", x.classOf(n), n % 4);
        }
        Due.is("value(6, 2)", x.value(6, 2), 3);
    }

    private static void carriesOnThroughCircles() {
        FeatureUnifier x = Make.plain(10);
        // A circle of 4 and one of 6 leave a circle of 2, their greatest common divisor.
        for (int n = 0; n < 4; n++) {
            x.arc(n, 1, (n + 1) % 4);
        }
        for (int n = 0; n < 6; n++) {
            x.arc(4 + n, 1, 4 + (n + 1) % 6);
        }
        Due.is("unify(0, 4)", x.unify(0, 4), 2);
        for (int n = 0; n < 10; n++) {
            Due.is("classOf(" + n + ")", x.classOf(n), n % 2);
        }
        Due.is("value(0, 1)", x.value(0, 1), 1);
        Due.is("value(9, 1)", x.value(9, 1), 0);
    }

    private static void carriesOnThroughLateValues() {
        FeatureUnifier x = Make.plain(7);
        // The value of 0 for feature 2 comes from 4, and only then meets that of 5.
        x.arc(0, 0, 1);
        x.arc(4, 0, 5);
        x.arc(4, 2, 6);
        x.arc(1, 0, 0);
        x.arc(5, 0, 2);
        x.arc(2, 2, 3);
        Due.is("unify(0, 4)", x.unify(0, 4), 3);
        Due.same("after unify(0, 4)", Look.structures(x),
                "nodes 7 classes 3 | 0:0 1 -4 3 | 1:0 0 -4 -4 | 0:0 1 -4 3 | 3:0 -4 -4 -4 | 0:0 1 -4 3 | 1:0 0 -4 -4 | 3:0 -4 -4 -4");
    }

    private static void loopMeetsPath() {
        FeatureUnifier x = Make.plain(5);
        x.arc(4, 0, 4);
        for (int n = 0; n < 3; n++) {
            x.arc(n, 0, n + 1);
        }
        Due.is("unify(0, 4)", x.unify(0, 4), 1);
        Due.is("value(3, 0)", x.value(3, 0), 0);

        FeatureUnifier y = Make.plain(3);
        y.arc(0, 0, 1);
        y.arc(1, 0, 2);
        Due.is("a node and its value: unify(0, 1)", y.unify(0, 1), 1);
        Due.is("value(0, 0)", y.value(0, 0), 0);
    }

    private static void typesMeet() {
        FeatureUnifier x = new FeatureUnifier();
        x.under(3, 1);
        x.under(3, 2);
        x.node(1);
        x.node(2);
        x.node(0);
        x.node(2);
        x.arc(0, 0, 2);
        x.arc(1, 0, 3);
        Due.is("unify(0, 1)", x.unify(0, 1), 2);
        Due.is("typeOf(0)", x.typeOf(0), 3);
        Due.is("typeOf(1)", x.typeOf(1), 3);
        Due.is("typeOf(2)", x.typeOf(2), 2);
        Due.is("typeOf(3)", x.typeOf(3), 2);
    }

    private static void threeTypesMeet() {
        FeatureUnifier x = new FeatureUnifier();
        x.under(4, 1);
        x.under(4, 2);
        x.under(5, 4);
        x.under(5, 3);
        x.node(3);
        x.node(2);
        x.node(1);
        Due.is("unify(0, 1)", x.unify(0, 1), 2);
        Due.is("typeOf(0)", x.typeOf(0), 5);
        Due.is("unify(2, 1)", x.unify(2, 1), 1);
        Due.is("typeOf(2)", x.typeOf(2), 5);
    }

    private static void failsAtOnce() {
        FeatureUnifier x = new FeatureUnifier();
        x.node(1);
        x.node(2);
        x.arc(1, 0, 0);
        x.mark();
        String before = Look.all(x);
        Due.is("unifiable(0, 1)", x.unifiable(0, 1), false);
        Due.is("unify(0, 1)", x.unify(0, 1), -3);
        Due.is("unify(1, 0)", x.unify(1, 0), -3);
        Due.same("after a failure", Look.all(x), before);
    }

    private static void failsDeepDown() {
        FeatureUnifier x = new FeatureUnifier();
        int[] types = {0, 0, 1, 1, 0, 2, 0, 2};
        for (int type : types) {
            x.node(type);
        }
        x.arc(0, 0, 1);
        x.arc(0, 1, 6);
        x.arc(1, 1, 2);
        x.arc(2, 2, 3);
        x.arc(4, 0, 5);
        x.arc(4, 2, 7);
        x.arc(5, 1, 6);
        x.arc(6, 2, 7);
        String before = Look.all(x);
        Due.is("unifiable(0, 4)", x.unifiable(0, 4), false);
        Due.is("unify(0, 4)", x.unify(0, 4), -3);
        Due.same("after a failure deep down", Look.all(x), before);
        // Here 2 and 6 become one, and then their values 3 and 7 of strange types.
        Due.is("unify(0, 1)", x.unify(0, 1), -3);
        Due.same("after another failure", Look.all(x), before);
        Due.is("unify(1, 4)", x.unify(1, 4), 7);
        Due.is("value(4, 1)", x.value(4, 1), 2);
    }

    private static void unifiableChangesNothing() {
        FeatureUnifier x = new FeatureUnifier();
        x.under(2, 1);
        int[] types = {1, 2, 0, 2};
        for (int type : types) {
            x.node(type);
        }
        x.arc(0, 0, 2);
        x.arc(1, 0, 3);
        x.arc(1, 1, 0);
        x.mark();
        String before = Look.all(x);
        Due.is("unifiable(0, 1)", x.unifiable(0, 1), true);
        Due.is("unifiable(2, 3)", x.unifiable(2, 3), true);
        Due.same("after unifiable", Look.all(x), before);
        Due.is("unify(0, 1)", x.unify(0, 1), 2);
        Due.is("back()", x.back(), 0);
        Due.same("after back", Look.structures(x) + " marks 1", before);
    }

    private static void manyMerges() {
        // As many merges as there can be, with as many values as there can be.
        FeatureUnifier x = Make.plain(16);
        for (int n = 0; n < 16; n++) {
            x.arc(n, 0, (n + 1) % 16);
            x.arc(n, 1, (n + 5) % 16);
            x.arc(n, 2, (n * 3 + 7) % 16);
        }
        Due.is("unifiable(0, 1)", x.unifiable(0, 1), true);
        Due.is("unify(3, 12)", x.unify(3, 12), 1);
        for (int n = 0; n < 16; n++) {
            Due.is("classOf(" + n + ")", x.classOf(n), 0);
        }
        Due.is("reach(9)", x.reach(9), 1);

        // The same with a tree over all nodes whose last leaf decides.
        FeatureUnifier y = new FeatureUnifier();
        for (int n = 0; n < 16; n++) {
            y.node(n == 15 ? 1 : n == 3 ? 2 : 0);
        }
        for (int n = 0; n < 5; n++) {
            for (int f = 0; f < 3; f++) {
                y.arc(n, f, n * 3 + f + 1);
            }
        }
        String before = Look.structures(y);
        Due.is("unify(0, 4)", y.unify(0, 4), -3);
        Due.same("after the tree's failure", Look.structures(y), before);
        Due.is("unify(0, 1)", y.unify(0, 1), -3);
        Due.is("unify(1, 2)", y.unify(1, 2), 12);
    }
}
