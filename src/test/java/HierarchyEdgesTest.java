/** The edges of promises 1 to 4 and of what "Terms" says of types, a test for each sentence. */
public final class HierarchyEdgesTest {
    public static void main(String[] args) {
        newObjectHasTypesUnderThemselvesAndZeroOnly();
        newObjectHasNoNode();
        newObjectHasNoMark();
        everyTypeLiesUnderItself();
        liesUnderIsTransitive();
        everyTypeLiesUnderZero();
        nothingElseLiesUnderAnything();
        underTakesTheFirstAndTheLastType();
        underWithAOutOfRange();
        underWithBOutOfRange();
        underWithNodes();
        underWithMarksAlone();
        underOnceTheNodesAreGone();
        underThatClosesACircle();
        underThatPutsZeroUnderAnother();
        underThatTakesAMeetAway();
        underThatTakesAMeetAwayFurtherUp();
        underThatLeavesEveryMeet();
        underTestsTheRangeBeforeTheNodes();
        underTestsTheRangeBeforeTheFitness();
        underTestsTheNodesBeforeTheFitness();
        underAnswersTheLeastCount();
        underAnswersTheGreatestCount();
        underAgainAnswersTheSame();
        isUnderForTheFirstAndTheLastType();
        isUnderWithoutSuchTypes();
        meetOfATypeWithItself();
        meetWithZero();
        meetOfTypesOfWhichOneIsLower();
        meetWithoutLowerType();
        meetOutOfRange();
        Due.end();
    }

    private static void newObjectHasTypesUnderThemselvesAndZeroOnly() {
        Due.sentence("Each type lies under itself and under 0 only");
        FeatureUnifier x = new FeatureUnifier();
        for (int a = 0; a < 8; a++) {
            for (int b = 0; b < 8; b++) {
                Due.is("isUnder(" + a + ", " + b + ")", x.isUnder(a, b), b == 0 || a == b);
            }
        }
    }

    private static void newObjectHasNoNode() {
        Due.sentence("A new object: no node");
        FeatureUnifier x = new FeatureUnifier();
        Due.is("nodes()", x.nodes(), 0);
        Due.is("classes()", x.classes(), 0);
        Due.is("classOf(0)", x.classOf(0), -1);
        Due.is("typeOf(0)", x.typeOf(0), -1);
    }

    private static void newObjectHasNoMark() {
        Due.sentence("A new object: no mark");
        FeatureUnifier x = new FeatureUnifier();
        Due.is("marks()", x.marks(), 0);
        Due.is("back()", x.back(), -4);
        Due.is("keep()", x.keep(), -4);
    }

    private static void everyTypeLiesUnderItself() {
        Due.sentence("\"lies under\" is reflexive");
        FeatureUnifier x = Make.structure();
        for (int t = 0; t < 8; t++) {
            Due.is("isUnder(" + t + ", " + t + ")", x.isUnder(t, t), true);
        }
    }

    private static void liesUnderIsTransitive() {
        Due.sentence("if a lies under b and b under c then a under c");
        // A chain over all types, whose middle link comes last.
        FeatureUnifier x = new FeatureUnifier();
        x.under(7, 3);
        x.under(3, 6);
        x.under(1, 5);
        x.under(5, 2);
        Due.is("isUnder(7, 2)", x.isUnder(7, 2), false);
        x.under(6, 1);
        int[] chain = {7, 3, 6, 1, 5, 2};
        for (int low = 0; low < chain.length; low++) {
            for (int high = 0; high < chain.length; high++) {
                Due.is("isUnder(" + chain[low] + ", " + chain[high] + ")", x.isUnder(chain[low], chain[high]), low <= high);
            }
        }
    }

    private static void everyTypeLiesUnderZero() {
        Due.sentence("every type lies under type 0");
        FeatureUnifier x = Make.structure();
        for (int t = 0; t < 8; t++) {
            Due.is("isUnder(" + t + ", 0)", x.isUnder(t, 0), true);
            Due.is("isUnder(0, " + t + ")", x.isUnder(0, t), t == 0);
        }
    }

    private static void nothingElseLiesUnderAnything() {
        Due.sentence("nothing else lies under anything but what follows from the calls of under");
        FeatureUnifier x = new FeatureUnifier();
        x.under(3, 1);
        x.under(3, 2);
        x.under(7, 3);
        x.under(6, 2);
        Due.same("hierarchy", Look.hierarchy(x), "0 over 0 1 2 3 4 5 6 7; 1 over 1 3 7; 2 over 2 3 6 7; 3 over 3 7; 4 over 4; "
                + "5 over 5; 6 over 6; 7 over 7; ");
    }

    private static void underTakesTheFirstAndTheLastType() {
        Due.sentence("a or b not 0 to 7 (0 and 7 are)");
        Due.is("under(7, 1)", new FeatureUnifier().under(7, 1), 2);
        Due.is("under(1, 7)", new FeatureUnifier().under(1, 7), 2);
        Due.is("under(7, 0)", new FeatureUnifier().under(7, 0), 8);
        Due.is("under(7, 7)", new FeatureUnifier().under(7, 7), 1);
        Due.is("under(0, 0)", new FeatureUnifier().under(0, 0), 8);
    }

    private static void underWithAOutOfRange() {
        Due.sentence("a not 0 to 7 answers BAD_ARG");
        FeatureUnifier x = new FeatureUnifier();
        String before = Look.hierarchy(x);
        for (int wrong : Wrong.TYPES) {
            Due.is("under(" + wrong + ", 7)", x.under(wrong, 7), -1);
            Due.is("under(" + wrong + ", 0)", x.under(wrong, 0), -1);
        }
        Due.same("hierarchy afterwards", Look.hierarchy(x), before);
    }

    private static void underWithBOutOfRange() {
        Due.sentence("b not 0 to 7 answers BAD_ARG");
        FeatureUnifier x = new FeatureUnifier();
        String before = Look.hierarchy(x);
        for (int wrong : Wrong.TYPES) {
            Due.is("under(7, " + wrong + ")", x.under(7, wrong), -1);
            Due.is("under(" + wrong + ", " + wrong + ")", x.under(wrong, wrong), -1);
        }
        Due.same("hierarchy afterwards", Look.hierarchy(x), before);
    }

    private static void underWithNodes() {
        Due.sentence("there are nodes answers FULL");
        for (int count = 1; count <= 16; count += 15) {
            FeatureUnifier x = new FeatureUnifier();
            x.under(2, 1);
            Make.addNodes(x, new int[count]);
            String before = Look.hierarchy(x);
            Due.is("with " + count + " nodes: under(3, 1)", x.under(3, 1), -2);
            Due.is("with " + count + " nodes: known already: under(2, 1)", x.under(2, 1), -2);
            Due.is("with " + count + " nodes: under(5, 0)", x.under(5, 0), -2);
            Due.is("with " + count + " nodes: under(4, 4)", x.under(4, 4), -2);
            Due.same("hierarchy afterwards", Look.hierarchy(x), before);
        }
    }

    private static void underWithMarksAlone() {
        Due.sentence("The hierarchy can be changed only while there is no node (marks are not in the way)");
        FeatureUnifier x = new FeatureUnifier();
        for (int count = 0; count < 6; count++) {
            x.mark();
        }
        Due.is("under(3, 1)", x.under(3, 1), 2);
        Due.is("isUnder(3, 1)", x.isUnder(3, 1), true);
    }

    private static void underOnceTheNodesAreGone() {
        Due.sentence("The hierarchy can be changed only while there is no node");
        FeatureUnifier x = new FeatureUnifier();
        x.mark();
        x.node(0);
        x.mark();
        x.node(0);
        x.back();
        Due.is("back to a node: under(3, 1)", x.under(3, 1), -2);
        x.back();
        Due.is("back to no node: under(3, 1)", x.under(3, 1), 2);
        x.mark();
        x.node(0);
        x.keep();
        Due.is("a node kept: under(4, 1)", x.under(4, 1), -2);
        x.clear();
        Due.is("cleared: under(4, 1)", x.under(4, 1), 3);
        x.node(8);
        Due.is("a node refused: under(5, 1)", x.under(5, 1), 4);
    }

    private static void underThatClosesACircle() {
        Due.sentence("two different types never lie under each other");
        // The shortest circle, and the longest one, over all types but 0.
        for (int last = 2; last <= 7; last++) {
            FeatureUnifier x = new FeatureUnifier();
            for (int t = 2; t <= last; t++) {
                x.under(t, t - 1);
            }
            String before = Look.hierarchy(x);
            Due.is("chain 1 to " + last + ": under(1, " + last + ")", x.under(1, last), -3);
            Due.same("hierarchy afterwards", Look.hierarchy(x), before);
        }
    }

    private static void underThatPutsZeroUnderAnother() {
        Due.sentence("two different types never lie under each other (every type lies under type 0)");
        FeatureUnifier x = new FeatureUnifier();
        String before = Look.hierarchy(x);
        for (int b = 1; b < 8; b++) {
            Due.is("under(0, " + b + ")", x.under(0, b), -3);
        }
        Due.same("hierarchy afterwards", Look.hierarchy(x), before);
    }

    private static void underThatTakesAMeetAway() {
        Due.sentence("types with a lower type have a meet");
        FeatureUnifier x = new FeatureUnifier();
        x.under(6, 1);
        x.under(6, 7);
        x.under(5, 1);
        String before = Look.hierarchy(x);
        Due.is("5 and 6 apart under 1 and 7: under(5, 7)", x.under(5, 7), -3);
        Due.same("hierarchy afterwards", Look.hierarchy(x), before);

        // The same with the step that is refused coming from the other side.
        FeatureUnifier y = new FeatureUnifier();
        y.under(5, 7);
        y.under(6, 7);
        y.under(6, 1);
        Due.is("5 and 6 apart under 1 and 7: under(5, 1)", y.under(5, 1), -3);
        Due.is("isUnder(5, 1)", y.isUnder(5, 1), false);
    }

    private static void underThatTakesAMeetAwayFurtherUp() {
        Due.sentence("types with a lower type have a meet (for types above the two that are named)");
        FeatureUnifier x = new FeatureUnifier();
        x.under(3, 1);
        x.under(3, 2);
        x.under(5, 4);
        x.under(5, 2);
        String before = Look.hierarchy(x);
        // 4 under 1 would bring 5 under 1 and 2, beside 3.
        Due.is("under(4, 1)", x.under(4, 1), -3);
        Due.same("hierarchy afterwards", Look.hierarchy(x), before);
    }

    private static void underThatLeavesEveryMeet() {
        Due.sentence("types with a lower type have a meet (a second lower type is fine under the meet or above it)");
        FeatureUnifier x = new FeatureUnifier();
        x.under(6, 1);
        x.under(6, 7);
        x.under(5, 6);
        Due.is("5 is under the meet: under(5, 7)", x.under(5, 7), 3);
        Due.is("meet(1, 7)", x.meet(1, 7), 6);
        FeatureUnifier y = new FeatureUnifier();
        y.under(6, 1);
        y.under(6, 7);
        y.under(5, 1);
        y.under(6, 5);
        Due.is("5 becomes the meet: under(5, 7)", y.under(5, 7), 3);
        Due.is("meet(1, 7)", y.meet(1, 7), 5);
    }

    private static void underTestsTheRangeBeforeTheNodes() {
        Due.sentence("Tested in this order: a or b not 0 to 7; there are nodes");
        FeatureUnifier x = Make.plain(1);
        for (int wrong : Wrong.TYPES) {
            Due.is("with a node: under(" + wrong + ", 1)", x.under(wrong, 1), -1);
            Due.is("with a node: under(1, " + wrong + ")", x.under(1, wrong), -1);
        }
    }

    private static void underTestsTheRangeBeforeTheFitness() {
        Due.sentence("Tested in this order: a or b not 0 to 7; the hierarchy would no longer be as said above");
        FeatureUnifier x = new FeatureUnifier();
        for (int wrong : Wrong.TYPES) {
            Due.is("0 under a type that is none: under(0, " + wrong + ")", x.under(0, wrong), -1);
        }
    }

    private static void underTestsTheNodesBeforeTheFitness() {
        Due.sentence("Tested in this order: there are nodes; the hierarchy would no longer be as said above");
        FeatureUnifier x = new FeatureUnifier();
        x.under(2, 1);
        x.under(3, 2);
        x.under(3, 4);
        x.under(5, 2);
        Due.is("no node: a circle: under(1, 2)", x.under(1, 2), -3);
        Due.is("no node: no meet: under(5, 4)", x.under(5, 4), -3);
        x.node(0);
        Due.is("a node: a circle: under(1, 2)", x.under(1, 2), -2);
        Due.is("a node: no meet: under(5, 4)", x.under(5, 4), -2);
        Due.is("a node: under(0, 7)", x.under(0, 7), -2);
    }

    private static void underAnswersTheLeastCount() {
        Due.sentence("Otherwise the number of types that lie under b now (b itself is one)");
        FeatureUnifier x = new FeatureUnifier();
        Due.is("under(6, 6)", x.under(6, 6), 1);
        Due.is("under(5, 6)", x.under(5, 6), 2);
        Due.is("under(5, 5)", x.under(5, 5), 1);
    }

    private static void underAnswersTheGreatestCount() {
        Due.sentence("Otherwise the number of types that lie under b now (up to all eight)");
        FeatureUnifier x = new FeatureUnifier();
        Due.is("under(4, 0)", x.under(4, 0), 8);
        for (int t = 2; t < 8; t++) {
            Due.is("under(" + t + ", 1)", x.under(t, 1), t);
        }
        // What lies under a comes along: here six types under 3 by one call.
        FeatureUnifier y = new FeatureUnifier();
        for (int t = 7; t > 4; t--) {
            y.under(t, 4);
        }
        y.under(2, 1);
        y.under(4, 2);
        Due.is("under(1, 3)", y.under(1, 3), 7);
    }

    private static void underAgainAnswersTheSame() {
        Due.sentence("Type a lies under type b from now on (it may do so already)");
        FeatureUnifier x = new FeatureUnifier();
        x.under(2, 1);
        x.under(3, 2);
        String before = Look.hierarchy(x);
        Due.is("under(2, 1)", x.under(2, 1), 3);
        Due.is("by transitivity: under(3, 1)", x.under(3, 1), 3);
        Due.is("by nature: under(3, 0)", x.under(3, 0), 8);
        Due.same("hierarchy afterwards", Look.hierarchy(x), before);
    }

    private static void isUnderForTheFirstAndTheLastType() {
        Due.sentence("Whether type a lies under type b (0 and 7 are types)");
        FeatureUnifier x = new FeatureUnifier();
        Due.is("isUnder(0, 0)", x.isUnder(0, 0), true);
        Due.is("isUnder(7, 7)", x.isUnder(7, 7), true);
        Due.is("isUnder(7, 0)", x.isUnder(7, 0), true);
        Due.is("isUnder(0, 7)", x.isUnder(0, 7), false);
        Due.is("isUnder(6, 7)", x.isUnder(6, 7), false);
    }

    private static void isUnderWithoutSuchTypes() {
        Due.sentence("false if there are no such types");
        FeatureUnifier x = new FeatureUnifier();
        for (int wrong : Wrong.TYPES) {
            Due.is("isUnder(" + wrong + ", 0)", x.isUnder(wrong, 0), false);
            Due.is("isUnder(0, " + wrong + ")", x.isUnder(0, wrong), false);
            Due.is("isUnder(7, " + wrong + ")", x.isUnder(7, wrong), false);
            Due.is("isUnder(" + wrong + ", " + wrong + ")", x.isUnder(wrong, wrong), false);
        }
    }

    private static void meetOfATypeWithItself() {
        Due.sentence("their MEET is the lower type under which all their lower types lie (one type twice)");
        FeatureUnifier x = new FeatureUnifier();
        x.under(7, 6);
        for (int t = 0; t < 8; t++) {
            Due.is("meet(" + t + ", " + t + ")", x.meet(t, t), t);
        }
    }

    private static void meetWithZero() {
        Due.sentence("every type lies under type 0 (so its meet with 0 is itself)");
        FeatureUnifier x = new FeatureUnifier();
        for (int t = 0; t < 8; t++) {
            Due.is("meet(0, " + t + ")", x.meet(0, t), t);
            Due.is("meet(" + t + ", 0)", x.meet(t, 0), t);
        }
    }

    private static void meetOfTypesOfWhichOneIsLower() {
        Due.sentence("their MEET is the lower type under which all their lower types lie (it may be one of them)");
        FeatureUnifier x = new FeatureUnifier();
        x.under(6, 7);
        x.under(1, 6);
        Due.is("meet(7, 6)", x.meet(7, 6), 6);
        Due.is("meet(6, 7)", x.meet(6, 7), 6);
        Due.is("meet(7, 1)", x.meet(7, 1), 1);
        x.under(1, 5);
        Due.is("meet(5, 7), far below both", x.meet(5, 7), 1);
    }

    private static void meetWithoutLowerType() {
        Due.sentence("NONE if they have no lower type");
        FeatureUnifier x = new FeatureUnifier();
        Due.is("meet(1, 7)", x.meet(1, 7), -4);
        Due.is("meet(7, 1)", x.meet(7, 1), -4);
        // A type above both is no lower type of them.
        x.under(1, 2);
        x.under(7, 2);
        Due.is("siblings: meet(1, 7)", x.meet(1, 7), -4);
        x.under(3, 1);
        x.under(3, 7);
        Due.is("siblings with a lower type: meet(1, 7)", x.meet(1, 7), 3);
    }

    private static void meetOutOfRange() {
        Due.sentence("BAD_ARG if a or b is not 0 to 7");
        FeatureUnifier x = new FeatureUnifier();
        for (int wrong : Wrong.TYPES) {
            Due.is("meet(" + wrong + ", 0)", x.meet(wrong, 0), -1);
            Due.is("meet(0, " + wrong + ")", x.meet(0, wrong), -1);
            Due.is("meet(7, " + wrong + ")", x.meet(7, wrong), -1);
            Due.is("meet(" + wrong + ", " + wrong + ")", x.meet(wrong, wrong), -1);
        }
    }
}
