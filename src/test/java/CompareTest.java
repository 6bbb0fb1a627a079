/** Promises 14 and 15: reach, subsumes. */
public final class CompareTest {
    public static void main(String[] args) {
        reachCounts();
        reachCountsClasses();
        subsumesItself();
        subsumesByType();
        subsumesByValues();
        subsumesSharing();
        subsumesCircles();
        subsumesOnWaysThatRunBackwards();
        subsumesAsksTheClass();
        questionsChangeNothing();
        Due.end();
    }

    private static void reachCounts() {
        FeatureUnifier x = Make.nodes(0, 0, 0, 0, 0, 0);
        x.arc(0, 0, 1);
        x.arc(0, 1, 2);
        x.arc(1, 2, 3);
        x.arc(2, 2, 3);
        x.arc(3, 0, 1);
        x.arc(4, 0, 4);
        x.arc(4, 1, 0);
        Due.is("reach(0)", x.reach(0), 4);
        Due.is("reach(1)", x.reach(1), 2);
        Due.is("reach(2)", x.reach(2), 3);
        Due.is("reach(3)", x.reach(3), 2);
        Due.is("reach(4)", x.reach(4), 5);
        Due.is("reach(5)", x.reach(5), 1);
    }

    private static void reachCountsClasses() {
        FeatureUnifier x = Make.nodes(0, 0, 0, 0);
        x.arc(0, 0, 1);
        x.arc(0, 1, 2);
        x.arc(2, 0, 3);
        Due.is("reach(0)", x.reach(0), 4);
        x.unify(1, 2);
        Due.is("reach(0) after unify(1, 2)", x.reach(0), 3);
        Due.is("reach(2)", x.reach(2), 2);
        x.unify(0, 3);
        Due.is("reach(3) after unify(0, 3)", x.reach(3), 2);
        Due.is("reach(2) after unify(0, 3)", x.reach(2), 2);
    }

    private static void subsumesItself() {
        FeatureUnifier x = Make.nodes(3, 0, 1);
        x.arc(0, 0, 1);
        x.arc(1, 2, 0);
        for (int n = 0; n < 3; n++) {
            Due.is("subsumes(" + n + ", " + n + ")", x.subsumes(n, n), true);
        }
    }

    private static void subsumesByType() {
        FeatureUnifier x = new FeatureUnifier();
        x.under(2, 1);
        for (int type = 0; type < 4; type++) {
            x.node(type);
        }
        Due.is("subsumes(0, 1)", x.subsumes(0, 1), true);
        Due.is("subsumes(1, 0)", x.subsumes(1, 0), false);
        Due.is("subsumes(1, 2)", x.subsumes(1, 2), true);
        Due.is("subsumes(2, 1)", x.subsumes(2, 1), false);
        Due.is("subsumes(1, 3)", x.subsumes(1, 3), false);
        Due.is("subsumes(0, 3)", x.subsumes(0, 3), true);
    }

    private static void subsumesByValues() {
        FeatureUnifier x = Make.nodes(0, 0, 0, 0, 0);
        x.arc(0, 0, 1);
        x.arc(2, 0, 3);
        x.arc(2, 1, 4);
        Due.is("less values: subsumes(0, 2)", x.subsumes(0, 2), true);
        Due.is("more values: subsumes(2, 0)", x.subsumes(2, 0), false);
        Due.is("no values: subsumes(1, 2)", x.subsumes(1, 2), true);
        Due.is("no values on the other side: subsumes(0, 1)", x.subsumes(0, 1), false);
        x.arc(1, 2, 1);
        Due.is("a value missing below: subsumes(0, 2)", x.subsumes(0, 2), false);
        x.arc(3, 2, 4);
        Due.is("still missing one further: subsumes(0, 2)", x.subsumes(0, 2), false);
    }

    private static void subsumesSharing() {
        FeatureUnifier x = Make.nodes(0, 0, 0, 0, 0);
        x.arc(0, 0, 1);
        x.arc(0, 1, 2);
        x.arc(3, 0, 4);
        x.arc(3, 1, 4);
        Due.is("two values onto one: subsumes(0, 3)", x.subsumes(0, 3), true);
        Due.is("one value onto two: subsumes(3, 0)", x.subsumes(3, 0), false);
        x.unify(1, 2);
        Due.is("one value onto one: subsumes(3, 0)", x.subsumes(3, 0), true);
    }

    private static void subsumesCircles() {
        FeatureUnifier x = Make.nodes(0, 0, 0, 0, 0, 0, 0);
        for (int n = 0; n < 4; n++) {
            x.arc(n, 0, (n + 1) % 4);
        }
        x.arc(4, 0, 5);
        x.arc(5, 0, 4);
        x.arc(6, 0, 4);
        Due.is("circle of 4 onto 2: subsumes(0, 4)", x.subsumes(0, 4), true);
        Due.is("circle of 2 onto 4: subsumes(4, 0)", x.subsumes(4, 0), false);
        Due.is("turned circle: subsumes(0, 3)", x.subsumes(0, 3), true);
        Due.is("way into a circle: subsumes(6, 5)", x.subsumes(6, 5), true);
        Due.is("circle onto the way into it: subsumes(5, 6)", x.subsumes(5, 6), false);
    }

    private static void subsumesOnWaysThatRunBackwards() {
        FeatureUnifier x = new FeatureUnifier();
        // All 16 nodes lie on one way down from 15; h follows it and fails at its end alone.
        for (int n = 0; n < 16; n++) {
            x.node(n == 1 ? 1 : 0);
        }
        for (int n = 15; n > 0; n--) {
            x.arc(n, 0, n - 1);
        }
        x.arc(0, 0, 0);
        Due.is("subsumes(15, 15)", x.subsumes(15, 15), true);
        Due.is("subsumes(15, 14)", x.subsumes(15, 14), false);
        Due.is("subsumes(0, 15)", x.subsumes(0, 15), false);
        Due.is("subsumes(0, 0)", x.subsumes(0, 0), true);

        FeatureUnifier y = new FeatureUnifier();
        for (int n = 0; n < 16; n++) {
            y.node(0);
        }
        for (int n = 15; n > 0; n--) {
            y.arc(n, 0, n - 1);
        }
        y.arc(15, 1, 15);
        y.arc(0, 0, 0);
        Due.is("last step fits: subsumes(14, 13)", y.subsumes(14, 13), true);
        Due.is("missing value: subsumes(15, 14)", y.subsumes(15, 14), false);
        Due.is("into the loop: subsumes(15, 15)", y.subsumes(15, 15), true);
    }

    private static void subsumesAsksTheClass() {
        FeatureUnifier x = Make.nodes(0, 0, 0, 0, 0);
        x.arc(0, 0, 1);
        x.unify(0, 2);
        Due.is("the values of 2 are those of 0: subsumes(2, 3)", x.subsumes(2, 3), false);
        Due.is("the values of 2 are those of 0: subsumes(2, 2)", x.subsumes(2, 2), true);
        x.arc(4, 0, 3);
        Due.is("subsumes(4, 2)", x.subsumes(4, 2), true);
        x.arc(0, 1, 2);
        x.arc(4, 1, 4);
        Due.is("h of 2 is given as h of its class: subsumes(2, 4)", x.subsumes(2, 4), true);
        Due.is("subsumes(4, 2) with loops", x.subsumes(4, 2), true);
    }

    private static void questionsChangeNothing() {
        FeatureUnifier x = Make.nodes(0, 1, 0, 2);
        x.arc(0, 0, 1);
        x.arc(2, 0, 3);
        x.arc(3, 1, 0);
        x.unify(0, 2);
        x.mark();
        String before = Look.all(x);
        x.subsumes(0, 2);
        x.subsumes(1, 3);
        x.subsumes(3, 1);
        x.reach(3);
        Due.same("after questions", Look.all(x), before);
    }
}
