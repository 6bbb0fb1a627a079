/** Promises 5 to 7 and 10 to 13: node, nodes, arc, classOf, typeOf, value, classes. */
public final class NodesTest {
    public static void main(String[] args) {
        nodesAreNumbered();
        nodeRefusals();
        newNodeStandsAlone();
        arcs();
        arcBelongsToTheClass();
        arcRefusals();
        questionsAboutNoNode();
        classesAreLeastNumbers();
        newNodeForgetsTheOldOne();
        Due.end();
    }

    private static void nodesAreNumbered() {
        FeatureUnifier x = new FeatureUnifier();
        for (int n = 0; n < 16; n++) {
            Due.is("nodes() before " + n, x.nodes(), n);
            Due.is("node(" + n % 8 + ")", x.node(n % 8), n);
            Due.is("classes() after " + n, x.classes(), n + 1);
        }
        Due.is("nodes()", x.nodes(), 16);
        for (int n = 0; n < 16; n++) {
            Due.is("typeOf(" + n + ")", x.typeOf(n), n % 8);
            Due.is("classOf(" + n + ")", x.classOf(n), n);
        }
    }

    private static void nodeRefusals() {
        FeatureUnifier x = new FeatureUnifier();
        for (int wrong : Look.WRONG_TYPES) {
            Due.is("node(" + wrong + ")", x.node(wrong), -1);
        }
        Due.is("nodes() after refusals", x.nodes(), 0);
        for (int n = 0; n < 16; n++) {
            x.node(0);
        }
        Due.is("17th node(0)", x.node(0), -2);
        Due.is("17th node(7)", x.node(7), -2);
        Due.is("bad argument before full: node(8)", x.node(8), -1);
        Due.is("bad argument before full: node(-1)", x.node(-1), -1);
        Due.is("nodes()", x.nodes(), 16);
        Due.is("classOf(16)", x.classOf(16), -1);
        // Fewer classes do not make room: nodes count.
        x.unify(14, 15);
        Due.is("node(0) after a unification", x.node(0), -2);
    }

    private static void newNodeStandsAlone() {
        FeatureUnifier x = new FeatureUnifier();
        x.node(3);
        x.node(3);
        Due.is("classOf(1)", x.classOf(1), 1);
        for (int f = 0; f < 3; f++) {
            Due.is("value(1, " + f + ")", x.value(1, f), -4);
        }
        Due.is("reach(1)", x.reach(1), 1);
    }

    private static void arcs() {
        FeatureUnifier x = new FeatureUnifier();
        for (int n = 0; n < 4; n++) {
            x.node(0);
        }
        Due.is("arc(0, 0, 1)", x.arc(0, 0, 1), 0);
        Due.is("arc(0, 1, 2)", x.arc(0, 1, 2), 0);
        Due.is("arc(0, 2, 0)", x.arc(0, 2, 0), 0);
        Due.is("arc(1, 2, 3)", x.arc(1, 2, 3), 0);
        Due.same("values", Look.structures(x), "nodes 4 classes 4 | 0:0 1 2 0 | 1:0 -4 -4 3 | 2:0 -4 -4 -4 | 3:0 -4 -4 -4");
    }

    private static void arcBelongsToTheClass() {
        FeatureUnifier x = new FeatureUnifier();
        for (int n = 0; n < 5; n++) {
            x.node(0);
        }
        x.unify(1, 3);
        x.unify(2, 4);
        Due.is("arc(3, 0, 4)", x.arc(3, 0, 4), 0);
        Due.is("value(1, 0)", x.value(1, 0), 2);
        Due.is("value(3, 0)", x.value(3, 0), 2);
        Due.is("arc(1, 0, 0)", x.arc(1, 0, 0), -2);
        Due.is("arc(1, 1, 0)", x.arc(1, 1, 0), 0);
        Due.is("arc(3, 1, 0)", x.arc(3, 1, 0), -2);
    }

    private static void arcRefusals() {
        FeatureUnifier x = new FeatureUnifier();
        Due.is("no nodes: arc(0, 0, 0)", x.arc(0, 0, 0), -1);
        x.node(0);
        x.node(0);
        x.arc(0, 1, 1);
        String before = Look.all(x);
        Due.is("arc(0, 1, 0)", x.arc(0, 1, 0), -2);
        Due.is("the same again: arc(0, 1, 1)", x.arc(0, 1, 1), -2);
        Due.is("arc(2, 0, 0)", x.arc(2, 0, 0), -1);
        Due.is("arc(0, 0, 2)", x.arc(0, 0, 2), -1);
        Due.is("bad argument before full: arc(0, 1, 2)", x.arc(0, 1, 2), -1);
        for (int wrong : Look.WRONG_NODES) {
            Due.is("arc(" + wrong + ", 0, 0)", x.arc(wrong, 0, 0), -1);
            Due.is("arc(0, 0, " + wrong + ")", x.arc(0, 0, wrong), -1);
            Due.is("bad argument before full: arc(0, 1, " + wrong + ")", x.arc(0, 1, wrong), -1);
        }
        for (int wrong : Look.WRONG_FEATURES) {
            Due.is("arc(0, " + wrong + ", 1)", x.arc(0, wrong, 1), -1);
            Due.is("arc(1, " + wrong + ", 0)", x.arc(1, wrong, 0), -1);
        }
        Due.same("after refused arcs", Look.all(x), before);
    }

    private static void questionsAboutNoNode() {
        FeatureUnifier x = new FeatureUnifier();
        x.node(1);
        x.node(2);
        x.arc(0, 0, 1);
        int[] wrongs = {2, 15, -1, 16, Integer.MIN_VALUE, Integer.MAX_VALUE};
        for (int wrong : wrongs) {
            Due.is("classOf(" + wrong + ")", x.classOf(wrong), -1);
            Due.is("typeOf(" + wrong + ")", x.typeOf(wrong), -1);
            Due.is("value(" + wrong + ", 0)", x.value(wrong, 0), -1);
        }
        for (int wrong : Look.WRONG_FEATURES) {
            Due.is("value(0, " + wrong + ")", x.value(0, wrong), -1);
            Due.is("value(1, " + wrong + ")", x.value(1, wrong), -1);
            Due.is("value(2, " + wrong + ")", x.value(2, wrong), -1);
        }
        Due.is("value(0, 0)", x.value(0, 0), 1);
        Due.is("value(0, 1)", x.value(0, 1), -4);
        Due.is("value(1, 2)", x.value(1, 2), -4);
    }

    private static void classesAreLeastNumbers() {
        FeatureUnifier x = new FeatureUnifier();
        for (int n = 0; n < 6; n++) {
            x.node(0);
        }
        x.arc(0, 0, 5);
        Due.is("unify(5, 4)", x.unify(5, 4), 5);
        Due.is("classOf(5)", x.classOf(5), 4);
        Due.is("value(0, 0)", x.value(0, 0), 4);
        Due.is("unify(3, 2)", x.unify(3, 2), 4);
        Due.is("unify(5, 3)", x.unify(5, 3), 3);
        for (int n = 2; n < 6; n++) {
            Due.is("classOf(" + n + ")", x.classOf(n), 2);
        }
        Due.is("value(0, 0)", x.value(0, 0), 2);
        Due.is("classOf(1)", x.classOf(1), 1);
        Due.is("classes()", x.classes(), 3);
        Due.is("nodes()", x.nodes(), 6);
    }

    private static void newNodeForgetsTheOldOne() {
        FeatureUnifier x = new FeatureUnifier();
        x.node(0);
        x.mark();
        x.node(4);
        x.arc(1, 0, 1);
        x.arc(1, 2, 0);
        x.unify(1, 1);
        x.back();
        x.node(5);
        Due.same("node made where one was", Look.structures(x), "nodes 2 classes 2 | 0:0 -4 -4 -4 | 1:5 -4 -4 -4");
        x.unify(0, 1);
        x.arc(1, 1, 0);
        x.clear();
        x.node(2);
        x.node(3);
        Due.same("nodes made after clear", Look.structures(x), "nodes 2 classes 2 | 0:2 -4 -4 -4 | 1:3 -4 -4 -4");
    }
}
