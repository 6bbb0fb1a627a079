/** Promises 5 to 7 and 10 to 13: node, nodes, arc, classOf, typeOf, value, classes. */
public final class NodesTest {
    public static void main(String[] args) {
        nodesAreNumbered();
        arcs();
        arcBelongsToTheClass();
        classesAreLeastNumbers();
        Due.end();
    }

    private static void nodesAreNumbered() {
        FeatureUnifier x = new FeatureUnifier();
        for (int n = 0; n < 16; n++) {
            Due.is("nodes() before " + n, x.nodes(), n);
            Due.is("node(" + n % 8 + ")", x.node(n % 8), n);
            Due.is("classes() after " + n, x.classes(), n + 1);
        }
        Due.is("nodes()", x.nodes(), 16);
        for (int n = 0; n < 16; n++) {
            Due.is("typeOf(" + n + ")", x.typeOf(n), n % 8);
            Due.is("classOf(" + n + ")", x.classOf(n), n);
        }
    }

    private static void arcs() {
        FeatureUnifier x = new FeatureUnifier();
        for (int n = 0; n < 4; n++) {
            x.node(0);
        }
        Due.is("arc(0, 0, 1)", x.arc(0, 0, 1), 0);
        Due.is("arc(0, 1, 2)", x.arc(0, 1, 2), 0);
        Due.is("arc(0, 2, 0)", x.arc(0, 2, 0), 0);
        Due.is("arc(1, 2, 3)", x.arc(1, 2, 3), 0);
        Due.same("values", Look.structures(x), "nodes 4 classes 4 | 0:0 1 2 0 | 1:0 -4 -4 3 | 2:0 -4 -4 -4 | 3:0 -4 -4 -4");
    }

    private static void arcBelongsToTheClass() {
        FeatureUnifier x = new FeatureUnifier();
        for (int n = 0; n < 5; n++) {
            x.node(0);
        }
        x.unify(1, 3);
        x.unify(2, 4);
        Due.is("arc(3, 0, 4)", x.arc(3, 0, 4), 0);
        Due.is("value(1, 0)", x.value(1, 0), 2);
        Due.is("value(3, 0)", x.value(3, 0), 2);
        Due.is("arc(1, 0, 0)", x.arc(1, 0, 0), -2);
        Due.is("arc(1, 1, 0)", x.arc(1, 1, 0), 0);
        Due.is("arc(3, 1, 0)", x.arc(3, 1, 0), -2);
    }

    private static void classesAreLeastNumbers() {
        FeatureUnifier x = new FeatureUnifier();
        for (int n = 0; n < 6; n++) {
            x.node(0);
        }
        x.arc(0, 0, 5);
        Due.is("unify(5, 4)", x.unify(5, 4), 5);
        Due.is("classOf(5)", x.classOf(5), 4);
        Due.is("value(0, 0)", x.value(0, 0), 4);
        Due.is("unify(3, 2)", x.unify(3, 2), 4);
        Due.is("unify(5, 3)", x.unify(5, 3), 3);
        for (int n = 2; n < 6; n++) {
            Due.is("classOf(" + n + ")", x.classOf(n), 2);
        }
        Due.is("value(0, 0)", x.value(0, 0), 2);
        Due.is("classOf(1)", x.classOf(1), 1);
        Due.is("classes()", x.classes(), 3);
        Due.is("nodes()", x.nodes(), 6);
    }
}
