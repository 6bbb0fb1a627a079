/** Promises 16 to 20: mark, back, keep, marks, clear. */
public final class MarksTest {
    public static void main(String[] args) {
        backTakesEverythingBack();
        backGoesToTheLastMark();
        keepThenBackGoesFurther();
        markAgainAfterBack();
        failedUnificationTouchesNoMark();
        clearRemoves();
        Due.end();
    }

    private static void backTakesEverythingBack() {
        FeatureUnifier x = Make.structure();
        String before = Look.structures(x);
        x.mark();
        Due.same("mark changes nothing", Look.structures(x), before);
        x.arc(0, 2, 1);
        x.node(7);
        x.arc(5, 0, 0);
        x.unify(0, 1);
        x.arc(4, 1, 5);
        Due.is("back()", x.back(), 0);
        Due.same("after back", Look.structures(x), before);
        Due.is("typeOf(5)", x.typeOf(5), -1);
        Due.is("node(6)", x.node(6), 5);
        Due.is("arc(0, 2, 5)", x.arc(0, 2, 5), 0);
        Due.is("value(5, 0)", x.value(5, 0), -4);
    }

    private static void backGoesToTheLastMark() {
        FeatureUnifier x = Make.structure();
        String[] seen = new String[3];
        int[][] pairs = {{0, 1}, {4, 6}, {5, 8}};
        for (int at = 0; at < 3; at++) {
            seen[at] = Look.structures(x);
            Due.is("mark()", x.mark(), at + 1);
            x.node(at);
            x.node(0);
            x.arc(6 + 2 * at, at, at);
            x.unify(pairs[at][0], pairs[at][1]);
        }
        for (int at = 2; at >= 0; at--) {
            Due.is("back()", x.back(), at);
            Due.same("mark " + at, Look.structures(x), seen[at]);
        }
    }

    private static void keepThenBackGoesFurther() {
        FeatureUnifier x = Make.structure();
        String before = Look.structures(x);
        x.mark();
        x.node(1);
        x.mark();
        x.unify(0, 1);
        Due.is("keep()", x.keep(), 1);
        Due.is("classOf(1)", x.classOf(1), 0);
        Due.is("back()", x.back(), 0);
        Due.same("the mark below the kept one", Look.structures(x), before);
    }

    private static void markAgainAfterBack() {
        FeatureUnifier x = new FeatureUnifier();
        x.mark();
        x.node(1);
        x.mark();
        x.node(2);
        x.back();
        x.node(3);
        x.mark();
        x.unify(0, 0);
        x.node(4);
        Due.is("back()", x.back(), 1);
        Due.is("nodes()", x.nodes(), 2);
        Due.is("typeOf(1)", x.typeOf(1), 3);
        Due.is("back()", x.back(), 0);
        Due.is("nodes()", x.nodes(), 0);
    }

    private static void failedUnificationTouchesNoMark() {
        FeatureUnifier x = new FeatureUnifier();
        x.node(1);
        String first = Look.structures(x);
        for (int count = 0; count < 6; count++) {
            x.mark();
        }
        x.node(2);
        x.node(0);
        Due.is("unify(0, 1)", x.unify(0, 1), -3);
        Due.is("unifiable(0, 2)", x.unifiable(0, 2), true);
        Due.is("unify(0, 2)", x.unify(0, 2), 2);
        Due.is("marks()", x.marks(), 6);
        for (int left = 5; left >= 0; left--) {
            Due.is("back()", x.back(), left);
            Due.same("after back", Look.structures(x), first);
        }
    }

    private static void clearRemoves() {
        FeatureUnifier x = Make.structure();
        String hierarchy = Look.hierarchy(x);
        x.mark();
        x.unify(0, 1);
        x.mark();
        x.clear();
        Due.same("after clear", Look.all(x), "nodes 0 classes 0 marks 0");
        Due.same("hierarchy after clear", Look.hierarchy(x), hierarchy);
        Due.is("back()", x.back(), -4);
        Due.is("keep()", x.keep(), -4);
        Due.is("classOf(0)", x.classOf(0), -1);
        Due.is("unify(0, 1)", x.unify(0, 1), -1);
        Due.is("under(4, 3)", x.under(4, 3), 2);
        Due.is("node(0)", x.node(0), 0);
        Due.is("mark()", x.mark(), 1);
        x.node(1);
        Due.is("back()", x.back(), 0);
        Due.is("nodes()", x.nodes(), 1);
        x.clear();
        x.clear();
        Due.is("cleared twice: nodes()", x.nodes(), 0);
    }
}
