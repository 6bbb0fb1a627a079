/** The edges of promises 14 and 15, a test for each sentence. */
public final class CompareEdgesTest {
    public static void main(String[] args) {
        reachOfAClassWithoutValues();
        reachOfAClassThatIsItsOwnValue();
        reachOfAll();
        reachCountsAClassOnce();
        reachDoesNotGoBackwards();
        reachOfNoNode();
        subsumesItself();
        subsumesByEqualTypes();
        subsumesByLowerTypes();
        subsumesAsksTheTypeOfTheFurthestClass();
        subsumesWithoutValues();
        subsumesWithAValueMissing();
        subsumesWithMoreValuesOnTheOtherSide();
        subsumesOntoOneClass();
        subsumesOfOneClassOntoTwo();
        subsumesAlongCircles();
        subsumesAlongTheLongestWay();
        subsumesWithoutNodes();
        Due.end();
    }

    private static void reachOfAClassWithoutValues() {
        Due.sentence("it itself counts");
        FeatureUnifier x = Make.plain(16);
        Due.is("reach(0)", x.reach(0), 1);
        Due.is("reach(15)", x.reach(15), 1);
    }

    private static void reachOfAClassThatIsItsOwnValue() {
        Due.sentence("it itself counts (once, even if it is its own value)");
        FeatureUnifier x = Make.plain(2);
        for (int f = 0; f < 3; f++) {
            x.arc(1, f, 1);
        }
        Due.is("reach(1)", x.reach(1), 1);
        x.arc(0, 2, 1);
        Due.is("reach(0)", x.reach(0), 2);
    }

    private static void reachOfAll() {
        Due.sentence("How many classes one can come to from the class of n by values (as far as there are values)");
        FeatureUnifier x = Make.chain();
        for (int n = 0; n < 16; n++) {
            Due.is("chain upwards: reach(" + n + ")", x.reach(n), 16 - n);
        }
        FeatureUnifier y = Make.plain(16);
        for (int n = 15; n > 0; n--) {
            y.arc(n, n % 3, n - 1);
        }
        for (int n = 0; n < 16; n++) {
            Due.is("chain downwards: reach(" + n + ")", y.reach(n), n + 1);
        }
        y.arc(0, 1, 15);
        Due.is("circle of 16: reach(7)", y.reach(7), 16);
    }

    private static void reachCountsAClassOnce() {
        Due.sentence("How many classes one can come to (a class with several nodes, or come to on several ways, counts once)");
        FeatureUnifier x = Make.plain(5);
        x.arc(0, 0, 1);
        x.arc(0, 1, 2);
        x.arc(0, 2, 3);
        x.arc(1, 0, 4);
        x.arc(2, 0, 4);
        Due.is("reach(0)", x.reach(0), 5);
        x.unify(2, 3);
        Due.is("reach(0) with 2 and 3 one", x.reach(0), 4);
        x.unify(1, 2);
        Due.is("reach(0) with 1, 2 and 3 one", x.reach(0), 3);
        Due.is("reach(3)", x.reach(3), 2);
    }

    private static void reachDoesNotGoBackwards() {
        Due.sentence("from the class of n by values (not to those whose value it is)");
        FeatureUnifier x = Make.plain(3);
        x.arc(1, 0, 0);
        x.arc(2, 0, 0);
        Due.is("reach(0)", x.reach(0), 1);
        Due.is("reach(1)", x.reach(1), 2);
    }

    private static void reachOfNoNode() {
        Due.sentence("BAD_ARG if there is no node n (reach)");
        for (int count = 0; count <= 16; count += 4) {
            FeatureUnifier x = Make.plain(count);
            for (int wrong : Wrong.nodes(count)) {
                Due.is(count + " nodes: reach(" + wrong + ")", x.reach(wrong), -1);
            }
        }
    }

    private static void subsumesItself() {
        Due.sentence("Whether n is at least as general as m (each is as general as itself)");
        FeatureUnifier x = Make.structure();
        x.arc(4, 2, 0);
        x.arc(0, 2, 1);
        for (int n = 0; n < 5; n++) {
            Due.is("subsumes(" + n + ", " + n + ")", x.subsumes(n, n), true);
        }
        x.unify(2, 3);
        Due.is("of one class: subsumes(2, 3)", x.subsumes(2, 3), true);
        Due.is("of one class: subsumes(3, 2)", x.subsumes(3, 2), true);
    }

    private static void subsumesByEqualTypes() {
        Due.sentence("the type of h(C) lies under the type of C (reflexive)");
        for (int type = 0; type < 8; type++) {
            FeatureUnifier x = Make.nodes(type, type);
            Due.is("type " + type + ": subsumes(0, 1)", x.subsumes(0, 1), true);
        }
    }

    private static void subsumesByLowerTypes() {
        Due.sentence("the type of h(C) lies under the type of C (not the other way round)");
        FeatureUnifier x = new FeatureUnifier();
        x.under(7, 6);
        x.under(6, 5);
        Make.addNodes(x, 5, 7, 0, 4);
        Due.is("5 over 7: subsumes(0, 1)", x.subsumes(0, 1), true);
        Due.is("7 under 5: subsumes(1, 0)", x.subsumes(1, 0), false);
        Due.is("0 over 7: subsumes(2, 1)", x.subsumes(2, 1), true);
        Due.is("7 under 0: subsumes(1, 2)", x.subsumes(1, 2), false);
        Due.is("strangers: subsumes(3, 0)", x.subsumes(3, 0), false);
        Due.is("strangers: subsumes(0, 3)", x.subsumes(0, 3), false);
    }

    private static void subsumesAsksTheTypeOfTheFurthestClass() {
        Due.sentence("every class C that one can come to from n by values (the furthest too)");
        // Two chains of eight, once upwards and once downwards in number, whose ends alone differ in type.
        for (int upwards = 0; upwards < 2; upwards++) {
            FeatureUnifier x = new FeatureUnifier();
            for (int n = 0; n < 16; n++) {
                x.node(n == (upwards == 1 ? 7 : 0) ? 1 : 0);
            }
            for (int n = 0; n < 7; n++) {
                x.arc(upwards == 1 ? n : n + 1, 1, upwards == 1 ? n + 1 : n);
                x.arc(upwards == 1 ? n + 8 : n + 9, 1, upwards == 1 ? n + 9 : n + 8);
            }
            int special = upwards == 1 ? 0 : 7;
            Due.is("subsumes(" + (special + 8) + ", " + special + ")", x.subsumes(special + 8, special), true);
            Due.is("subsumes(" + special + ", " + (special + 8) + ")", x.subsumes(special, special + 8), false);
        }
    }

    private static void subsumesWithoutValues() {
        Due.sentence("wherever C has a value (a class without values asks nothing more)");
        FeatureUnifier x = Make.plain(3);
        for (int f = 0; f < 3; f++) {
            x.arc(1, f, 2);
        }
        Due.is("none and none: subsumes(0, 2)", x.subsumes(0, 2), true);
        Due.is("none and three: subsumes(0, 1)", x.subsumes(0, 1), true);
    }

    private static void subsumesWithAValueMissing() {
        Due.sentence("wherever C has a value D for a feature, h(C) has the value h(D) for it");
        for (int f = 0; f < 3; f++) {
            FeatureUnifier x = Make.plain(4);
            x.arc(0, f, 2);
            for (int other = 0; other < 3; other++) {
                if (other != f) {
                    x.arc(1, other, 3);
                }
            }
            Due.is("feature " + f + " missing: subsumes(0, 1)", x.subsumes(0, 1), false);
            x.arc(1, f, 3);
            Due.is("feature " + f + " there: subsumes(0, 1)", x.subsumes(0, 1), true);
            // Missing one step further on.
            x.arc(2, f, 2);
            Due.is("feature " + f + " missing below: subsumes(0, 1)", x.subsumes(0, 1), false);
            x.arc(3, f, 3);
            Due.is("feature " + f + " there below: subsumes(0, 1)", x.subsumes(0, 1), true);
        }
    }

    private static void subsumesWithMoreValuesOnTheOtherSide() {
        Due.sentence("wherever C has a value (h(C) may have more)");
        FeatureUnifier x = Make.plain(4);
        x.arc(0, 1, 2);
        x.arc(1, 0, 3);
        x.arc(1, 1, 3);
        x.arc(1, 2, 3);
        x.arc(3, 0, 3);
        Due.is("subsumes(0, 1)", x.subsumes(0, 1), true);
        Due.is("subsumes(1, 0)", x.subsumes(1, 0), false);
    }

    private static void subsumesOntoOneClass() {
        Due.sentence("there is a way to give every class C a class h(C) (two may get the same)");
        FeatureUnifier x = Make.plain(5);
        x.arc(0, 0, 1);
        x.arc(0, 1, 2);
        x.arc(3, 0, 4);
        x.arc(3, 1, 4);
        Due.is("subsumes(0, 3)", x.subsumes(0, 3), true);
        // All onto one class that is its own value.
        FeatureUnifier y = Make.chain();
        y.mark();
        y.unify(14, 15);
        Due.is("subsumes(0, 15)", y.subsumes(0, 15), true);
        y.back();
        Due.is("the end of the chain has no value: subsumes(0, 15)", y.subsumes(0, 15), false);
    }

    private static void subsumesOfOneClassOntoTwo() {
        Due.sentence("there is a way to give every class C a class h(C) (one class gets one only)");
        FeatureUnifier x = Make.plain(5);
        x.arc(0, 0, 1);
        x.arc(0, 1, 1);
        x.arc(2, 0, 3);
        x.arc(2, 1, 4);
        Due.is("subsumes(0, 2)", x.subsumes(0, 2), false);
        x.unify(3, 4);
        Due.is("once they are one: subsumes(0, 2)", x.subsumes(0, 2), true);
        // n's own class is given m's class, so its value for itself must come back to m.
        FeatureUnifier y = Make.plain(3);
        y.arc(0, 0, 0);
        y.arc(1, 0, 2);
        y.arc(2, 0, 2);
        Due.is("subsumes(0, 1)", y.subsumes(0, 1), false);
        Due.is("subsumes(0, 2)", y.subsumes(0, 2), true);
    }

    private static void subsumesAlongCircles() {
        Due.sentence("h of n's class is m's class, and wherever C has a value D for a feature, h(C) has the value h(D) (in circles)");
        FeatureUnifier x = Make.plain(16);
        // A circle of 12 and one of 4.
        for (int n = 0; n < 12; n++) {
            x.arc(n, 0, (n + 1) % 12);
        }
        for (int n = 0; n < 4; n++) {
            x.arc(12 + n, 0, 12 + (n + 1) % 4);
        }
        Due.is("12 onto 4: subsumes(5, 14)", x.subsumes(5, 14), true);
        Due.is("4 onto 12: subsumes(14, 5)", x.subsumes(14, 5), false);
        Due.is("turned: subsumes(11, 0)", x.subsumes(11, 0), true);
        FeatureUnifier y = Make.plain(5);
        for (int n = 0; n < 3; n++) {
            y.arc(n, 0, (n + 1) % 3);
        }
        y.arc(3, 0, 4);
        y.arc(4, 0, 3);
        Due.is("3 onto 2: subsumes(0, 3)", y.subsumes(0, 3), false);
        Due.is("2 onto 3: subsumes(3, 0)", y.subsumes(3, 0), false);
    }

    private static void subsumesAlongTheLongestWay() {
        Due.sentence("every class C that one can come to from n by values (over all 16 nodes)");
        // h turns a circle of all nodes by one; the class that comes last is given a wrong type, or not.
        for (int lastType = 0; lastType < 2; lastType++) {
            FeatureUnifier down = new FeatureUnifier();
            FeatureUnifier up = new FeatureUnifier();
            for (int n = 0; n < 16; n++) {
                down.node(n == 0 ? lastType : 0);
                up.node(n == 15 ? lastType : 0);
            }
            for (int n = 0; n < 16; n++) {
                down.arc(n, 0, (n + 15) % 16);
                up.arc(n, 0, (n + 1) % 16);
            }
            Due.is("last type " + lastType + ": downwards: subsumes(15, 14)", down.subsumes(15, 14), lastType == 0);
            Due.is("last type " + lastType + ": upwards: subsumes(0, 1)", up.subsumes(0, 1), lastType == 0);
        }
    }

    private static void subsumesWithoutNodes() {
        Due.sentence("False if there is no node n or m");
        for (int count = 0; count <= 16; count += 4) {
            FeatureUnifier x = Make.plain(count);
            for (int wrong : Wrong.nodes(count)) {
                Due.is(count + " nodes: subsumes(" + wrong + ", 0)", x.subsumes(wrong, 0), false);
                Due.is(count + " nodes: subsumes(0, " + wrong + ")", x.subsumes(0, wrong), false);
                Due.is(count + " nodes: subsumes(" + wrong + ", " + wrong + ")", x.subsumes(wrong, wrong), false);
            }
        }
    }
}
