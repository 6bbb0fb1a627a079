/** The edges of promises 5 to 7 and 10 to 13 and of what "Terms" says of nodes, a test for each sentence. */
public final class NodesEdgesTest {
    public static void main(String[] args) {
        nodeTakesTheFirstAndTheLastType();
        nodeWithTypeOutOfRange();
        sixteenthNode();
        seventeenthNode();
        nodeAgainOnceThereIsRoom();
        unifiedNodesLeaveNoRoom();
        nodeTestsTheRangeBeforeTheRoom();
        nodeIsAClassOfItsOwn();
        nodeForgetsWhatHadItsNumber();
        nodesCountsNodes();
        arcTakesTheFirstAndTheLast();
        arcWithoutNodeN();
        arcWithoutNodeM();
        arcWithFeatureOutOfRange();
        arcWithAValueThere();
        arcWithAValueThereFromAnotherNodeOfTheClass();
        arcBesideOtherValues();
        arcOntoItself();
        arcTestsTheRangeBeforeTheValue();
        nodeStandsForItsClass();
        classOfTheLeastNode();
        valueIsAnsweredAsTheLeastNode();
        classOfNoNode();
        typeOfTheClass();
        typeOfNoNode();
        valueThatIsNone();
        valueOfNoNode();
        valueWithFeatureOutOfRange();
        classesFromNoneToSixteen();
        Due.end();
    }

    private static void nodeTakesTheFirstAndTheLastType() {
        Due.sentence("type not 0 to 7 (0 and 7 are)");
        FeatureUnifier x = new FeatureUnifier();
        Due.is("node(0)", x.node(0), 0);
        Due.is("node(7)", x.node(7), 1);
        Due.is("typeOf(0)", x.typeOf(0), 0);
        Due.is("typeOf(1)", x.typeOf(1), 7);
    }

    private static void nodeWithTypeOutOfRange() {
        Due.sentence("type not 0 to 7 answers BAD_ARG");
        FeatureUnifier x = Make.plain(1);
        String before = Look.all(x);
        for (int wrong : Wrong.TYPES) {
            Due.is("node(" + wrong + ")", x.node(wrong), -1);
        }
        Due.same("afterwards", Look.all(x), before);
        Due.is("the next number is not used up: node(0)", x.node(0), 1);
    }

    private static void sixteenthNode() {
        Due.sentence("NODES are numbered 0, 1, .. in the order in which they are made, at most 16");
        FeatureUnifier x = new FeatureUnifier();
        for (int n = 0; n < 16; n++) {
            Due.is("node(" + n % 8 + ")", x.node(n % 8), n);
        }
        for (int n = 0; n < 16; n++) {
            Due.is("typeOf(" + n + ")", x.typeOf(n), n % 8);
        }
    }

    private static void seventeenthNode() {
        Due.sentence("16 nodes answers FULL");
        FeatureUnifier x = Make.plain(16);
        String before = Look.all(x);
        for (int type = 0; type < 8; type++) {
            Due.is("node(" + type + ")", x.node(type), -2);
        }
        Due.same("afterwards", Look.all(x), before);
        Due.is("classOf(16)", x.classOf(16), -1);
    }

    private static void nodeAgainOnceThereIsRoom() {
        Due.sentence("16 nodes answers FULL (and no longer, once some are gone)");
        FeatureUnifier x = Make.plain(15);
        x.mark();
        Due.is("node(1)", x.node(1), 15);
        Due.is("node(2)", x.node(2), -2);
        x.back();
        Due.is("after back: node(3)", x.node(3), 15);
        Due.is("typeOf(15)", x.typeOf(15), 3);
        Due.is("node(4)", x.node(4), -2);
        x.clear();
        Due.is("after clear: node(5)", x.node(5), 0);
    }

    private static void unifiedNodesLeaveNoRoom() {
        Due.sentence("16 nodes answers FULL (nodes count, not classes)");
        FeatureUnifier x = Make.chain();
        Due.is("unify(0, 1)", x.unify(0, 1), 1);
        Due.is("node(0)", x.node(0), -2);
        Due.is("nodes()", x.nodes(), 16);
    }

    private static void nodeTestsTheRangeBeforeTheRoom() {
        Due.sentence("Tested in this order: type not 0 to 7; 16 nodes");
        FeatureUnifier x = Make.plain(16);
        for (int wrong : Wrong.TYPES) {
            Due.is("with 16 nodes: node(" + wrong + ")", x.node(wrong), -1);
        }
    }

    private static void nodeIsAClassOfItsOwn() {
        Due.sentence("A new node is a class of its own without values");
        FeatureUnifier x = Make.plain(15);
        for (int n = 0; n < 15; n++) {
            for (int f = 0; f < 3; f++) {
                x.arc(n, f, 14 - n);
            }
        }
        x.unify(0, 14);
        Due.is("node(0)", x.node(0), 15);
        Due.is("classOf(15)", x.classOf(15), 15);
        for (int f = 0; f < 3; f++) {
            Due.is("value(15, " + f + ")", x.value(15, f), -4);
        }
        Due.is("reach(15)", x.reach(15), 1);
    }

    private static void nodeForgetsWhatHadItsNumber() {
        Due.sentence("A new node is a class of its own without values (whatever had its number before)");
        FeatureUnifier x = Make.nodes(0, 4);
        x.mark();
        x.node(4);
        for (int f = 0; f < 3; f++) {
            x.arc(2, f, 2 - f);
        }
        x.unify(2, 1);
        x.back();
        x.node(5);
        Due.same("made after back", Look.structures(x),
                "nodes 3 classes 3 | 0:0 -4 -4 -4 | 1:4 -4 -4 -4 | 2:5 -4 -4 -4");
        for (int f = 0; f < 3; f++) {
            x.arc(2, f, 0);
        }
        x.unify(0, 1);
        x.clear();
        Make.addNodes(x, 3, 2, 1);
        Due.same("made after clear", Look.structures(x),
                "nodes 3 classes 3 | 0:3 -4 -4 -4 | 1:2 -4 -4 -4 | 2:1 -4 -4 -4");
    }

    private static void nodesCountsNodes() {
        Due.sentence("The number of nodes");
        FeatureUnifier x = new FeatureUnifier();
        for (int count = 0; count < 16; count++) {
            Due.is("nodes()", x.nodes(), count);
            x.node(0);
        }
        Due.is("full: nodes()", x.nodes(), 16);
        x.node(0);
        Due.is("after a refused node: nodes()", x.nodes(), 16);
        x.unify(3, 4);
        Due.is("after unify: nodes()", x.nodes(), 16);
        x.clear();
        Due.is("after clear: nodes()", x.nodes(), 0);
    }

    private static void arcTakesTheFirstAndTheLast() {
        Due.sentence("no node n or m, or f not 0 to 2 (the first and the last are)");
        FeatureUnifier x = Make.plain(16);
        Due.is("arc(0, 0, 15)", x.arc(0, 0, 15), 0);
        Due.is("arc(15, 2, 0)", x.arc(15, 2, 0), 0);
        Due.is("arc(15, 0, 15)", x.arc(15, 0, 15), 0);
        Due.is("value(0, 0)", x.value(0, 0), 15);
        Due.is("value(15, 2)", x.value(15, 2), 0);
        Due.is("value(15, 0)", x.value(15, 0), 15);
        Due.is("value(14, 2)", x.value(14, 2), -4);
    }

    private static void arcWithoutNodeN() {
        Due.sentence("no node n answers BAD_ARG (arc)");
        for (int count = 0; count <= 16; count += 4) {
            FeatureUnifier x = Make.plain(count);
            String before = Look.all(x);
            for (int wrong : Wrong.nodes(count)) {
                Due.is(count + " nodes: arc(" + wrong + ", 0, 0)", x.arc(wrong, 0, 0), -1);
                Due.is(count + " nodes: arc(" + wrong + ", 2, 3)", x.arc(wrong, 2, 3), -1);
            }
            Due.same("afterwards", Look.all(x), before);
        }
    }

    private static void arcWithoutNodeM() {
        Due.sentence("no node m answers BAD_ARG (arc)");
        for (int count = 0; count <= 16; count += 4) {
            FeatureUnifier x = Make.plain(count);
            String before = Look.all(x);
            for (int wrong : Wrong.nodes(count)) {
                Due.is(count + " nodes: arc(0, 0, " + wrong + ")", x.arc(0, 0, wrong), -1);
                Due.is(count + " nodes: arc(" + wrong + ", 1, " + wrong + ")", x.arc(wrong, 1, wrong), -1);
            }
            Due.same("afterwards", Look.all(x), before);
        }
    }

    private static void arcWithFeatureOutOfRange() {
        Due.sentence("f not 0 to 2 answers BAD_ARG (arc)");
        FeatureUnifier x = Make.plain(16);
        String before = Look.all(x);
        for (int wrong : Wrong.FEATURES) {
            Due.is("arc(0, " + wrong + ", 1)", x.arc(0, wrong, 1), -1);
            Due.is("arc(1, " + wrong + ", 0)", x.arc(1, wrong, 0), -1);
            Due.is("arc(15, " + wrong + ", 15)", x.arc(15, wrong, 15), -1);
        }
        Due.same("afterwards", Look.all(x), before);
    }

    private static void arcWithAValueThere() {
        Due.sentence("it has a value for f answers FULL");
        FeatureUnifier x = Make.plain(3);
        for (int f = 0; f < 3; f++) {
            x.arc(0, f, f);
        }
        String before = Look.all(x);
        for (int f = 0; f < 3; f++) {
            for (int m = 0; m < 3; m++) {
                Due.is("arc(0, " + f + ", " + m + ")", x.arc(0, f, m), -2);
            }
        }
        Due.same("afterwards", Look.all(x), before);
    }

    private static void arcWithAValueThereFromAnotherNodeOfTheClass() {
        Due.sentence("it has a value for f answers FULL (the class of n, by whichever node)");
        FeatureUnifier x = Make.plain(4);
        x.arc(0, 0, 3);
        x.arc(1, 1, 3);
        x.unify(0, 1);
        x.unify(1, 2);
        for (int n = 0; n < 3; n++) {
            Due.is("arc(" + n + ", 0, 0)", x.arc(n, 0, 0), -2);
            Due.is("arc(" + n + ", 1, 0)", x.arc(n, 1, 0), -2);
        }
        Due.is("arc(2, 2, 2)", x.arc(2, 2, 2), 0);
        Due.is("value(0, 2)", x.value(0, 2), 0);
        Due.is("arc(0, 2, 3)", x.arc(0, 2, 3), -2);
    }

    private static void arcBesideOtherValues() {
        Due.sentence("it has a value for f answers FULL (a value for another feature, or of another class, is not in the way)");
        FeatureUnifier x = Make.plain(3);
        Due.is("arc(1, 1, 0)", x.arc(1, 1, 0), 0);
        Due.is("arc(1, 0, 0)", x.arc(1, 0, 0), 0);
        Due.is("arc(1, 2, 0)", x.arc(1, 2, 0), 0);
        Due.is("arc(0, 1, 0)", x.arc(0, 1, 0), 0);
        Due.is("arc(2, 1, 0)", x.arc(2, 1, 0), 0);
        Due.is("arc(0, 2, 1)", x.arc(0, 2, 1), 0);
        Due.is("arc(2, 0, 1)", x.arc(2, 0, 1), 0);
    }

    private static void arcOntoItself() {
        Due.sentence("The class of n gets the class of m as its value for the feature f (n and m may be one)");
        FeatureUnifier x = Make.plain(2);
        Due.is("arc(1, 0, 1)", x.arc(1, 0, 1), 0);
        Due.is("value(1, 0)", x.value(1, 0), 1);
        Due.is("arc(1, 0, 1) again", x.arc(1, 0, 1), -2);
        Due.is("arc(0, 0, 0)", x.arc(0, 0, 0), 0);
        Due.is("value 0 is a value: arc(0, 0, 1)", x.arc(0, 0, 1), -2);
        Due.is("value(0, 0)", x.value(0, 0), 0);
    }

    private static void arcTestsTheRangeBeforeTheValue() {
        Due.sentence("Tested in this order: no node n or m, or f not 0 to 2; it has a value for f");
        FeatureUnifier x = Make.plain(4);
        for (int n = 0; n < 4; n++) {
            for (int f = 0; f < 3; f++) {
                x.arc(n, f, 0);
            }
        }
        for (int wrong : Wrong.nodes(4)) {
            Due.is("all values there: arc(0, 0, " + wrong + ")", x.arc(0, 0, wrong), -1);
            Due.is("all values there: arc(3, 2, " + wrong + ")", x.arc(3, 2, wrong), -1);
            Due.is("all values there: arc(" + wrong + ", 1, 1)", x.arc(wrong, 1, 1), -1);
        }
        for (int wrong : Wrong.FEATURES) {
            Due.is("all values there: arc(1, " + wrong + ", 1)", x.arc(1, wrong, 1), -1);
        }
    }

    private static void nodeStandsForItsClass() {
        Due.sentence("Below, \"n\" for a node also stands for its class");
        // 3 is in the class of 0 and 5 in that of 1; neither has had a type or a value of its own.
        FeatureUnifier x = Make.nodes(6, 7, 0, 0, 0, 0);
        x.arc(0, 0, 2);
        x.arc(1, 0, 4);
        x.arc(1, 1, 2);
        x.unify(0, 3);
        x.unify(5, 1);
        Due.is("classOf(3)", x.classOf(3), 0);
        Due.is("typeOf(3)", x.typeOf(3), 6);
        Due.is("value(5, 1)", x.value(5, 1), 2);
        Due.is("reach(5)", x.reach(5), 3);
        Due.is("unifiable(3, 5)", x.unifiable(3, 5), false);
        Due.is("unify(5, 3)", x.unify(5, 3), -3);
        Due.is("subsumes(3, 2)", x.subsumes(3, 2), false);
        Due.is("subsumes(2, 3)", x.subsumes(2, 3), true);
        Due.is("subsumes(3, 3)", x.subsumes(3, 3), true);
        Due.is("arc(3, 0, 2)", x.arc(3, 0, 2), -2);
        Due.is("arc(3, 2, 5)", x.arc(3, 2, 5), 0);
        Due.is("value(0, 2)", x.value(0, 2), 1);
        Due.is("subsumes(3, 0)", x.subsumes(3, 0), true);
        Due.is("subsumes(4, 5)", x.subsumes(4, 5), true);
        Due.is("subsumes(5, 4)", x.subsumes(5, 4), false);
    }

    private static void classOfTheLeastNode() {
        Due.sentence("a class is answered as the least number of its nodes");
        FeatureUnifier x = Make.plain(16);
        // The least one comes last, and is named second or first in turn.
        for (int n = 15; n > 0; n--) {
            if (n % 2 == 0) {
                x.unify(15, n - 1);
            } else {
                x.unify(n - 1, 15);
            }
            Due.is("classOf(15)", x.classOf(15), n - 1);
            Due.is("classOf(" + n + ")", x.classOf(n), n - 1);
        }
    }

    private static void valueIsAnsweredAsTheLeastNode() {
        Due.sentence("a class is answered as the least number of its nodes (as a value too)");
        FeatureUnifier x = Make.plain(16);
        x.arc(0, 0, 14);
        x.arc(15, 2, 14);
        for (int n = 13; n > 0; n--) {
            x.unify(n, 14);
            Due.is("value(0, 0)", x.value(0, 0), n);
            Due.is("value(15, 2)", x.value(15, 2), n);
        }
        x.arc(1, 1, 14);
        Due.is("value(14, 1)", x.value(14, 1), 1);
        x.unify(0, 1);
        Due.is("value(14, 1)", x.value(14, 1), 0);
    }

    private static void classOfNoNode() {
        Due.sentence("BAD_ARG if there is no node n (classOf)");
        for (int count = 0; count <= 16; count += 4) {
            FeatureUnifier x = Make.plain(count);
            for (int wrong : Wrong.nodes(count)) {
                Due.is(count + " nodes: classOf(" + wrong + ")", x.classOf(wrong), -1);
            }
            Due.is(count + " nodes: classOf(" + (count - 1) + ")", x.classOf(count - 1), count - 1);
        }
    }

    private static void typeOfTheClass() {
        Due.sentence("The type of the class of n (not the one it was made with)");
        FeatureUnifier x = Make.nodes(0, 7, 0);
        x.unify(0, 1);
        Due.is("typeOf(0)", x.typeOf(0), 7);
        Due.is("typeOf(1)", x.typeOf(1), 7);
        Due.is("typeOf(2)", x.typeOf(2), 0);
        x.unify(2, 1);
        Due.is("typeOf(2) once it is one with them", x.typeOf(2), 7);
    }

    private static void typeOfNoNode() {
        Due.sentence("BAD_ARG if there is no node n (typeOf)");
        for (int count = 0; count <= 16; count += 4) {
            FeatureUnifier x = Make.plain(count);
            for (int wrong : Wrong.nodes(count)) {
                Due.is(count + " nodes: typeOf(" + wrong + ")", x.typeOf(wrong), -1);
            }
        }
    }

    private static void valueThatIsNone() {
        Due.sentence("NONE if it has none");
        FeatureUnifier x = Make.plain(16);
        x.arc(0, 1, 0);
        x.arc(15, 0, 1);
        Due.is("value(0, 0)", x.value(0, 0), -4);
        Due.is("value(0, 2)", x.value(0, 2), -4);
        Due.is("value(14, 2)", x.value(14, 2), -4);
        Due.is("value(15, 1)", x.value(15, 1), -4);
        Due.is("value(15, 2)", x.value(15, 2), -4);
        Due.is("0 is a value: value(0, 1)", x.value(0, 1), 0);
    }

    private static void valueOfNoNode() {
        Due.sentence("BAD_ARG if there is no node n (value)");
        for (int count = 0; count <= 16; count += 4) {
            FeatureUnifier x = Make.plain(count);
            for (int wrong : Wrong.nodes(count)) {
                Due.is(count + " nodes: value(" + wrong + ", 0)", x.value(wrong, 0), -1);
                Due.is(count + " nodes: value(" + wrong + ", 2)", x.value(wrong, 2), -1);
            }
        }
    }

    private static void valueWithFeatureOutOfRange() {
        Due.sentence("BAD_ARG if f is not 0 to 2 (value)");
        FeatureUnifier x = Make.plain(16);
        for (int n = 0; n < 16; n++) {
            for (int f = 0; f < 3; f++) {
                x.arc(n, f, 0);
            }
        }
        for (int wrong : Wrong.FEATURES) {
            Due.is("value(0, " + wrong + ")", x.value(0, wrong), -1);
            Due.is("value(7, " + wrong + ")", x.value(7, wrong), -1);
            Due.is("value(15, " + wrong + ")", x.value(15, wrong), -1);
        }
    }

    private static void classesFromNoneToSixteen() {
        Due.sentence("The number of classes");
        FeatureUnifier x = new FeatureUnifier();
        Due.is("no node: classes()", x.classes(), 0);
        for (int count = 1; count <= 16; count++) {
            x.node(0);
            Due.is(count + " nodes: classes()", x.classes(), count);
        }
        for (int n = 1; n < 16; n++) {
            x.unify(n - 1, n);
            Due.is("classes() after " + n + " unifications", x.classes(), 16 - n);
        }
        x.clear();
        Due.is("after clear: classes()", x.classes(), 0);
    }
}
