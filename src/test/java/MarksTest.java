/** Promises 16 to 20: mark, back, keep, marks, clear. */
public final class MarksTest {
    public static void main(String[] args) {
        marksAreCounted();
        backTakesEverythingBack();
        backGoesToTheLastMark();
        backWithoutMarks();
        keepLeavesEverything();
        keepThenBackGoesFurther();
        markAgainAfterBack();
        hierarchyIsNotTakenBack();
        failedUnificationTouchesNoMark();
        clearRemoves();
        Due.end();
    }

    private static void marksAreCounted() {
        FeatureUnifier x = new FeatureUnifier();
        for (int count = 1; count <= 6; count++) {
            Due.is("mark()", x.mark(), count);
            Due.is("marks()", x.marks(), count);
        }
        Due.is("7th mark()", x.mark(), -2);
        Due.is("marks() after the 7th", x.marks(), 6);
        Due.is("keep()", x.keep(), 5);
        Due.is("mark() in its place", x.mark(), 6);
        for (int left = 5; left >= 0; left--) {
            Due.is("back()", x.back(), left);
            Due.is("marks()", x.marks(), left);
        }
    }

    private static FeatureUnifier someStructure() {
        FeatureUnifier x = new FeatureUnifier();
        x.under(3, 1);
        x.under(3, 2);
        int[] types = {1, 2, 0, 3, 0};
        for (int type : types) {
            x.node(type);
        }
        x.arc(0, 0, 2);
        x.arc(1, 0, 3);
        x.arc(1, 1, 4);
        return x;
    }

    private static void backTakesEverythingBack() {
        FeatureUnifier x = someStructure();
        String before = Look.structures(x);
        x.mark();
        Due.same("mark changes nothing", Look.structures(x), before);
        x.arc(0, 2, 1);
        x.node(7);
        x.arc(5, 0, 0);
        x.unify(0, 1);
        x.arc(4, 1, 5);
        Due.is("back()", x.back(), 0);
        Due.same("after back", Look.structures(x), before);
        Due.is("typeOf(5)", x.typeOf(5), -1);
        Due.is("node(6)", x.node(6), 5);
        Due.is("arc(0, 2, 5)", x.arc(0, 2, 5), 0);
        Due.is("value(5, 0)", x.value(5, 0), -4);
    }

    private static void backGoesToTheLastMark() {
        FeatureUnifier x = someStructure();
        String[] seen = new String[6];
        int[][] pairs = {{0, 1}, {4, 2}, {5, 6}, {7, 8}, {9, 10}, {5, 9}};
        for (int at = 0; at < 6; at++) {
            seen[at] = Look.structures(x);
            Due.is("mark()", x.mark(), at + 1);
            x.node(at);
            x.node(0);
            x.arc(x.nodes() - 1, at % 3, at);
            x.unify(pairs[at][0], pairs[at][1]);
        }
        Due.is("mark() refused", x.mark(), -2);
        for (int at = 5; at >= 0; at--) {
            Due.is("back()", x.back(), at);
            Due.same("mark " + at, Look.structures(x), seen[at]);
        }
        Due.is("back() once more", x.back(), -4);
        Due.same("after the refused back", Look.structures(x), seen[0]);
    }

    private static void backWithoutMarks() {
        FeatureUnifier x = someStructure();
        String before = Look.all(x);
        Due.is("back()", x.back(), -4);
        Due.is("keep()", x.keep(), -4);
        Due.same("after refusals", Look.all(x), before);
        x.mark();
        x.node(0);
        x.back();
        x.node(0);
        Due.is("a mark serves once: back()", x.back(), -4);
        Due.is("nodes()", x.nodes(), 6);
        x.mark();
        x.keep();
        Due.is("a kept mark is gone: back()", x.back(), -4);
        Due.is("a kept mark is gone: keep()", x.keep(), -4);
    }

    private static void keepLeavesEverything() {
        FeatureUnifier x = someStructure();
        x.mark();
        x.unify(0, 1);
        x.node(5);
        x.arc(5, 0, 0);
        String before = Look.structures(x);
        Due.is("keep()", x.keep(), 0);
        Due.same("after keep", Look.structures(x), before);
        Due.is("marks()", x.marks(), 0);
    }

    private static void keepThenBackGoesFurther() {
        FeatureUnifier x = someStructure();
        String before = Look.structures(x);
        x.mark();
        x.node(1);
        x.mark();
        x.unify(0, 1);
        Due.is("keep()", x.keep(), 1);
        Due.is("classOf(1)", x.classOf(1), 0);
        Due.is("back()", x.back(), 0);
        Due.same("the mark below the kept one", Look.structures(x), before);
    }

    private static void markAgainAfterBack() {
        FeatureUnifier x = new FeatureUnifier();
        x.mark();
        x.node(1);
        x.mark();
        x.node(2);
        x.back();
        x.node(3);
        x.mark();
        x.unify(0, 0);
        x.node(4);
        Due.is("back()", x.back(), 1);
        Due.is("nodes()", x.nodes(), 2);
        Due.is("typeOf(1)", x.typeOf(1), 3);
        Due.is("back()", x.back(), 0);
        Due.is("nodes()", x.nodes(), 0);
    }

    private static void hierarchyIsNotTakenBack() {
        FeatureUnifier x = new FeatureUnifier();
        x.mark();
        x.under(2, 1);
        x.mark();
        x.under(3, 2);
        x.node(3);
        Due.is("back()", x.back(), 1);
        Due.is("isUnder(3, 1)", x.isUnder(3, 1), true);
        Due.is("under(4, 3) with a mark", x.under(4, 3), 2);
        Due.is("back()", x.back(), 0);
        Due.is("isUnder(2, 1)", x.isUnder(2, 1), true);
        Due.is("isUnder(4, 1)", x.isUnder(4, 1), true);
    }

    private static void failedUnificationTouchesNoMark() {
        FeatureUnifier x = new FeatureUnifier();
        x.node(1);
        String first = Look.structures(x);
        for (int count = 0; count < 6; count++) {
            x.mark();
        }
        x.node(2);
        x.node(0);
        Due.is("unify(0, 1)", x.unify(0, 1), -3);
        Due.is("unifiable(0, 2)", x.unifiable(0, 2), true);
        Due.is("unify(0, 2)", x.unify(0, 2), 2);
        Due.is("marks()", x.marks(), 6);
        for (int left = 5; left >= 0; left--) {
            Due.is("back()", x.back(), left);
            Due.same("after back", Look.structures(x), first);
        }
    }

    private static void clearRemoves() {
        FeatureUnifier x = someStructure();
        String hierarchy = Look.hierarchy(x);
        x.mark();
        x.unify(0, 1);
        x.mark();
        x.clear();
        Due.same("after clear", Look.all(x), "nodes 0 classes 0 marks 0");
        Due.same("hierarchy after clear", Look.hierarchy(x), hierarchy);
        Due.is("back()", x.back(), -4);
        Due.is("keep()", x.keep(), -4);
        Due.is("classOf(0)", x.classOf(0), -1);
        Due.is("unify(0, 1)", x.unify(0, 1), -1);
        Due.is("under(4, 3)", x.under(4, 3), 2);
        Due.is("node(0)", x.node(0), 0);
        Due.is("mark()", x.mark(), 1);
        x.node(1);
        Due.is("back()", x.back(), 0);
        Due.is("nodes()", x.nodes(), 1);
        x.clear();
        x.clear();
        Due.is("cleared twice: nodes()", x.nodes(), 0);
    }
}
