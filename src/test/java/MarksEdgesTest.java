/** The edges of promises 16 to 20 and of what "Terms" says of marks, a test for each sentence. */
public final class MarksEdgesTest {
    public static void main(String[] args) {
        sixthMark();
        seventhMark();
        markAgainOnceThereIsRoom();
        markChangesNothingElse();
        backWithoutMark();
        backAnswersTheMarksLeft();
        backTakesTheMarkAway();
        backBringsNodes();
        backBringsClasses();
        backBringsTypes();
        backBringsValues();
        backLeavesTheHierarchy();
        backLeavesTheMarksBelow();
        backToNoNode();
        backFromAndToSixteenNodes();
        backWhereNothingChanged();
        keepWithoutMark();
        keepAnswersTheMarksLeft();
        keepDoesNotGoBack();
        keepTakesTheLastMarkOnly();
        marksFromNoneToSix();
        clearRemovesAllNodes();
        clearRemovesAllMarks();
        clearLeavesTheHierarchy();
        clearOfNothing();
        Due.end();
    }

    private static void setMarks(FeatureUnifier x, int count) {
        for (int k = 0; k < count; k++) {
            x.mark();
        }
    }

    private static void sixthMark() {
        Due.sentence("MARKS are kept on a pile of at most 6");
        FeatureUnifier x = new FeatureUnifier();
        for (int count = 1; count <= 6; count++) {
            Due.is("mark()", x.mark(), count);
        }
    }

    private static void seventhMark() {
        Due.sentence("FULL if there are 6");
        FeatureUnifier x = new FeatureUnifier();
        for (int type = 0; type < 6; type++) {
            x.mark();
            x.node(type);
        }
        Due.is("mark()", x.mark(), -2);
        Due.is("mark() again", x.mark(), -2);
        Due.is("marks()", x.marks(), 6);
        // The refused marks have not taken the place of another one.
        for (int left = 5; left >= 0; left--) {
            Due.is("back()", x.back(), left);
            Due.is("nodes()", x.nodes(), left);
        }
    }

    private static void markAgainOnceThereIsRoom() {
        Due.sentence("FULL if there are 6 (and no longer, once one is gone)");
        FeatureUnifier x = new FeatureUnifier();
        setMarks(x, 6);
        x.back();
        Due.is("after back: mark()", x.mark(), 6);
        Due.is("mark()", x.mark(), -2);
        x.keep();
        Due.is("after keep: mark()", x.mark(), 6);
        Due.is("mark()", x.mark(), -2);
        x.clear();
        Due.is("after clear: mark()", x.mark(), 1);
    }

    private static void markChangesNothingElse() {
        Due.sentence("Sets a mark");
        FeatureUnifier x = Make.structure();
        String structures = Look.structures(x);
        String hierarchy = Look.hierarchy(x);
        setMarks(x, 7);
        Due.same("structures", Look.structures(x), structures);
        Due.same("hierarchy", Look.hierarchy(x), hierarchy);
    }

    private static void backWithoutMark() {
        Due.sentence("NONE if there is none (back)");
        FeatureUnifier x = Make.structure();
        String before = Look.all(x);
        Due.is("back()", x.back(), -4);
        Due.is("back()", x.back(), -4);
        Due.same("afterwards", Look.all(x), before);
        Due.is("then mark()", x.mark(), 1);
    }

    private static void backAnswersTheMarksLeft() {
        Due.sentence("Otherwise the number of marks left (back)");
        FeatureUnifier x = new FeatureUnifier();
        setMarks(x, 6);
        for (int left = 5; left >= 0; left--) {
            Due.is("back()", x.back(), left);
        }
        Due.is("back()", x.back(), -4);
    }

    private static void backTakesTheMarkAway() {
        Due.sentence("the last mark, which is gone afterwards");
        FeatureUnifier x = Make.structure();
        x.mark();
        x.node(0);
        Due.is("back()", x.back(), 0);
        Due.is("marks()", x.marks(), 0);
        x.node(0);
        String before = Look.all(x);
        Due.is("back() again", x.back(), -4);
        Due.same("afterwards", Look.all(x), before);
    }

    private static void backBringsNodes() {
        Due.sentence("going back to a mark brings nodes to what they were when the mark was set");
        FeatureUnifier x = Make.plain(2);
        x.mark();
        Make.addNodes(x, 1, 2, 3);
        x.back();
        Due.is("nodes()", x.nodes(), 2);
        Due.is("classes()", x.classes(), 2);
        Due.is("classOf(1)", x.classOf(1), 1);
        Due.is("classOf(2)", x.classOf(2), -1);
        Due.is("arc(0, 0, 2)", x.arc(0, 0, 2), -1);
        Due.is("unify(0, 2)", x.unify(0, 2), -1);
        Due.is("unifiable(0, 2)", x.unifiable(0, 2), false);
        Due.is("subsumes(0, 2)", x.subsumes(0, 2), false);
        Due.is("reach(2)", x.reach(2), -1);
        Due.is("node(7)", x.node(7), 2);
        Due.is("typeOf(2)", x.typeOf(2), 7);
    }

    private static void backBringsClasses() {
        Due.sentence("going back to a mark brings classes to what they were when the mark was set");
        FeatureUnifier x = Make.plain(4);
        x.unify(2, 3);
        x.mark();
        x.unify(0, 1);
        x.unify(1, 3);
        Due.is("classes()", x.classes(), 1);
        x.back();
        Due.is("classes()", x.classes(), 3);
        Due.is("classOf(1)", x.classOf(1), 1);
        Due.is("classOf(2)", x.classOf(2), 2);
        Due.is("classOf(3)", x.classOf(3), 2);
    }

    private static void backBringsTypes() {
        Due.sentence("going back to a mark brings types to what they were when the mark was set");
        FeatureUnifier x = Make.structure();
        x.mark();
        x.unify(1, 0);
        Due.is("typeOf(0)", x.typeOf(0), 3);
        Due.is("typeOf(2)", x.typeOf(2), 3);
        x.back();
        int[] types = {1, 2, 0, 3, 0};
        for (int n = 0; n < 5; n++) {
            Due.is("typeOf(" + n + ")", x.typeOf(n), types[n]);
        }
    }

    private static void backBringsValues() {
        Due.sentence("going back to a mark brings values to what they were when the mark was set");
        FeatureUnifier x = Make.structure();
        x.mark();
        x.arc(0, 2, 1);
        x.arc(4, 0, 4);
        x.unify(0, 1);
        x.back();
        int[] values = {2, -4, -4, 3, 4, -4, -4, -4, -4, -4, -4, -4, -4, -4, -4};
        for (int n = 0; n < 5; n++) {
            for (int f = 0; f < 3; f++) {
                Due.is("value(" + n + ", " + f + ")", x.value(n, f), values[n * 3 + f]);
            }
        }
        Due.is("free again: arc(0, 2, 4)", x.arc(0, 2, 4), 0);
        Due.is("taken still: arc(0, 0, 4)", x.arc(0, 0, 4), -2);
    }

    private static void backLeavesTheHierarchy() {
        Due.sentence("going back to a mark brings nodes, classes, types and values (not the hierarchy)");
        FeatureUnifier x = new FeatureUnifier();
        x.mark();
        x.under(2, 1);
        x.mark();
        x.under(3, 2);
        x.node(3);
        x.back();
        Due.is("isUnder(3, 1)", x.isUnder(3, 1), true);
        x.back();
        Due.is("isUnder(2, 1)", x.isUnder(2, 1), true);
        Due.is("isUnder(3, 1)", x.isUnder(3, 1), true);
        Due.is("meet(1, 3)", x.meet(1, 3), 3);
    }

    private static void backLeavesTheMarksBelow() {
        Due.sentence("going back to a mark brings nodes, classes, types and values (not the marks below)");
        FeatureUnifier x = new FeatureUnifier();
        String[] seen = new String[6];
        for (int at = 0; at < 6; at++) {
            seen[at] = Look.structures(x);
            x.mark();
            x.node(at);
            x.arc(at, at % 3, 0);
            x.unify(0, at);
            x.arc(0, 1, at);
        }
        for (int at = 5; at >= 0; at--) {
            Due.is("back()", x.back(), at);
            Due.is("marks()", x.marks(), at);
            Due.same("mark " + at, Look.structures(x), seen[at]);
        }
    }

    private static void backToNoNode() {
        Due.sentence("going back to a mark (that was set while there was no node)");
        FeatureUnifier x = new FeatureUnifier();
        x.mark();
        Make.addNodes(x, 1, 2);
        Due.is("back()", x.back(), 0);
        Due.same("afterwards", Look.all(x), "nodes 0 classes 0 marks 0");
        Due.is("under(2, 1)", x.under(2, 1), 2);
        Due.is("node(0)", x.node(0), 0);
    }

    private static void backFromAndToSixteenNodes() {
        Due.sentence("going back to a mark (that was set at 16 nodes with 48 values)");
        // With one mark and with six: the first place on the pile and the last one.
        for (int count = 1; count <= 6; count += 5) {
            FeatureUnifier x = Make.plain(15);
            x.node(7);
            for (int n = 0; n < 16; n++) {
                for (int f = 0; f < 3; f++) {
                    x.arc(n, f, (n + f + 1) % 16);
                }
            }
            String before = Look.structures(x);
            setMarks(x, count);
            Due.is("unify(0, 15)", x.unify(0, 15), 1);
            Due.is("typeOf(8)", x.typeOf(8), 7);
            Due.is("back()", x.back(), count - 1);
            Due.same("with " + count + " marks", Look.structures(x), before);
        }
    }

    private static void backWhereNothingChanged() {
        Due.sentence("going back to a mark (since which nothing has changed)");
        FeatureUnifier x = Make.structure();
        String before = Look.all(x);
        x.mark();
        x.unify(0, 3);
        x.back();
        String after = Look.all(x);
        x.mark();
        x.back();
        Due.same("afterwards", Look.all(x), after);
        Due.same("after the first one", after, before);
    }

    private static void keepWithoutMark() {
        Due.sentence("NONE if there is none (keep)");
        FeatureUnifier x = Make.structure();
        String before = Look.all(x);
        Due.is("keep()", x.keep(), -4);
        Due.is("keep()", x.keep(), -4);
        Due.same("afterwards", Look.all(x), before);
        Due.is("then mark()", x.mark(), 1);
    }

    private static void keepAnswersTheMarksLeft() {
        Due.sentence("Otherwise the number of marks left (keep)");
        FeatureUnifier x = new FeatureUnifier();
        setMarks(x, 6);
        for (int left = 5; left >= 0; left--) {
            Due.is("keep()", x.keep(), left);
        }
        Due.is("keep()", x.keep(), -4);
    }

    private static void keepDoesNotGoBack() {
        Due.sentence("Takes the last mark away without going back");
        FeatureUnifier x = Make.structure();
        x.mark();
        x.node(5);
        x.arc(5, 0, 0);
        x.unify(0, 1);
        String before = Look.structures(x);
        Due.is("keep()", x.keep(), 0);
        Due.same("afterwards", Look.structures(x), before);
        Due.is("back()", x.back(), -4);
    }

    private static void keepTakesTheLastMarkOnly() {
        Due.sentence("Takes the last mark away (those below stay)");
        FeatureUnifier x = new FeatureUnifier();
        for (int type = 0; type < 6; type++) {
            x.mark();
            x.node(type);
        }
        Due.is("keep()", x.keep(), 5);
        Due.is("keep()", x.keep(), 4);
        Due.is("nodes()", x.nodes(), 6);
        Due.is("back()", x.back(), 3);
        Due.is("nodes()", x.nodes(), 3);
        Due.is("keep()", x.keep(), 2);
        Due.is("back()", x.back(), 1);
        Due.is("nodes()", x.nodes(), 1);
        Due.is("back()", x.back(), 0);
        Due.is("nodes()", x.nodes(), 0);
    }

    private static void marksFromNoneToSix() {
        Due.sentence("The number of marks");
        FeatureUnifier x = new FeatureUnifier();
        for (int count = 0; count < 6; count++) {
            Due.is("marks()", x.marks(), count);
            x.mark();
        }
        Due.is("marks()", x.marks(), 6);
        x.mark();
        Due.is("after a refused mark: marks()", x.marks(), 6);
        Make.addNodes(x, 0, 1, 2);
        x.unify(0, 1);
        x.unify(1, 2);
        x.unifiable(1, 2);
        Due.is("after unifications: marks()", x.marks(), 6);
        x.back();
        Due.is("after back: marks()", x.marks(), 5);
        x.keep();
        Due.is("after keep: marks()", x.marks(), 4);
        x.clear();
        Due.is("after clear: marks()", x.marks(), 0);
        x.back();
        x.keep();
        Due.is("after refusals: marks()", x.marks(), 0);
    }

    private static void clearRemovesAllNodes() {
        Due.sentence("Removes all nodes");
        FeatureUnifier x = Make.chain();
        x.unify(0, 8);
        x.clear();
        Due.is("nodes()", x.nodes(), 0);
        Due.is("classes()", x.classes(), 0);
        for (int n = 0; n < 16; n++) {
            Due.is("classOf(" + n + ")", x.classOf(n), -1);
        }
        for (int n = 0; n < 16; n++) {
            Due.is("node(0)", x.node(0), n);
            Due.is("classOf(" + n + ")", x.classOf(n), n);
            Due.is("value(" + n + ", 0)", x.value(n, 0), -4);
        }
        Due.is("node(0)", x.node(0), -2);
    }

    private static void clearRemovesAllMarks() {
        Due.sentence("Removes all marks");
        FeatureUnifier x = Make.structure();
        setMarks(x, 6);
        x.clear();
        Due.is("marks()", x.marks(), 0);
        Due.is("back()", x.back(), -4);
        Due.is("keep()", x.keep(), -4);
        Due.is("nodes()", x.nodes(), 0);
        Due.is("mark()", x.mark(), 1);
        x.node(0);
        Due.is("back()", x.back(), 0);
        Due.is("back to no node, not to a mark of before: nodes()", x.nodes(), 0);
    }

    private static void clearLeavesTheHierarchy() {
        Due.sentence("The hierarchy stays (clear)");
        FeatureUnifier x = Make.structure();
        String before = Look.hierarchy(x);
        x.clear();
        Due.same("hierarchy", Look.hierarchy(x), before);
        Due.is("meet(1, 2)", x.meet(1, 2), 3);
        Due.is("under(1, 3)", x.under(1, 3), -3);
        Due.is("under(4, 3)", x.under(4, 3), 2);
    }

    private static void clearOfNothing() {
        Due.sentence("Removes all nodes and marks (there may be none)");
        FeatureUnifier x = new FeatureUnifier();
        x.clear();
        x.clear();
        Due.same("afterwards", Look.all(x), "nodes 0 classes 0 marks 0");
        Due.same("hierarchy", Look.hierarchy(x), Look.hierarchy(new FeatureUnifier()));
        Due.is("node(7)", x.node(7), 0);
    }
}
