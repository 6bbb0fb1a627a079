import java.util.ArrayList;
import java.util.List;
import java.util.function.Supplier;
import java.util.function.ToIntFunction;

/** "A refused call answers the code named and changes nothing": nothing that can be asked, and nothing that a mark has kept. */
public final class RefusalsTest {
    private static final class Refusal {
        private final String name;
        private final int code;
        private final ToIntFunction<FeatureUnifier> call;

        private Refusal(String name, int code, ToIntFunction<FeatureUnifier> call) {
            this.name = name;
            this.code = code;
            this.call = call;
        }
    }

    private static List<Refusal> refusals;

    public static void main(String[] args) {
        Due.sentence("A refused call answers the code named and changes nothing");
        withoutNodesAndMarks();
        withNodesAndAllMarks();
        withAllNodesAndValues();
        afterClear();
        Due.end();
    }

    private static void refused(String name, int code, ToIntFunction<FeatureUnifier> call) {
        refusals.add(new Refusal(name, code, call));
    }

    /** Each call alone on an object that is made for it, and all of them in turn on one object. */
    private static void tryEach(String state, Supplier<FeatureUnifier> make) {
        String due = Look.downToTheLastMark(make.get());
        FeatureUnifier all = make.get();
        for (Refusal refusal : refusals) {
            FeatureUnifier x = make.get();
            Due.is(state + ": " + refusal.name, refusal.call.applyAsInt(x), refusal.code);
            Due.same(state + ": after " + refusal.name, Look.downToTheLastMark(x), due);
            Due.is(state + ": in turn: " + refusal.name, refusal.call.applyAsInt(all), refusal.code);
        }
        Due.same(state + ": after all of them", Look.downToTheLastMark(all), due);
    }

    private static void addBadArguments(int count) {
        refused("under(-1, 0)", -1, x -> x.under(-1, 0));
        refused("under(8, 0)", -1, x -> x.under(8, 0));
        refused("under(1, -1)", -1, x -> x.under(1, -1));
        refused("under(1, 8)", -1, x -> x.under(1, 8));
        refused("meet(8, 7)", -1, x -> x.meet(8, 7));
        refused("meet(7, -1)", -1, x -> x.meet(7, -1));
        refused("node(-1)", -1, x -> x.node(-1));
        refused("node(8)", -1, x -> x.node(8));
        refused("arc(0, -1, 0)", -1, x -> x.arc(0, -1, 0));
        refused("arc(0, 3, 0)", -1, x -> x.arc(0, 3, 0));
        refused("value(0, -1)", -1, x -> x.value(0, -1));
        refused("value(0, 3)", -1, x -> x.value(0, 3));
        for (int wrong : new int[] {-1, count}) {
            refused("arc(" + wrong + ", 2, 0)", -1, x -> x.arc(wrong, 2, 0));
            refused("arc(0, 2, " + wrong + ")", -1, x -> x.arc(0, 2, wrong));
            refused("unify(" + wrong + ", 0)", -1, x -> x.unify(wrong, 0));
            refused("unify(0, " + wrong + ")", -1, x -> x.unify(0, wrong));
            refused("unifiable(" + wrong + ", 0)", 0, x -> x.unifiable(wrong, 0) ? 1 : 0);
            refused("unifiable(0, " + wrong + ")", 0, x -> x.unifiable(0, wrong) ? 1 : 0);
            refused("classOf(" + wrong + ")", -1, x -> x.classOf(wrong));
            refused("typeOf(" + wrong + ")", -1, x -> x.typeOf(wrong));
            refused("value(" + wrong + ", 0)", -1, x -> x.value(wrong, 0));
            refused("reach(" + wrong + ")", -1, x -> x.reach(wrong));
            refused("subsumes(" + wrong + ", 0)", 0, x -> x.subsumes(wrong, 0) ? 1 : 0);
            refused("subsumes(0, " + wrong + ")", 0, x -> x.subsumes(0, wrong) ? 1 : 0);
        }
    }

    private static void addUnfitHierarchies() {
        refused("under(1, 3), a circle", -3, x -> x.under(1, 3));
        refused("under(0, 7)", -3, x -> x.under(0, 7));
        refused("under(4, 2), no meet", -3, x -> x.under(4, 2));
    }

    private static void addHierarchy(FeatureUnifier x) {
        x.under(3, 1);
        x.under(3, 2);
        x.under(4, 1);
    }

    private static FeatureUnifier empty() {
        FeatureUnifier x = new FeatureUnifier();
        addHierarchy(x);
        return x;
    }

    private static void withoutNodesAndMarks() {
        refusals = new ArrayList<>();
        addBadArguments(0);
        addUnfitHierarchies();
        refused("back()", -4, FeatureUnifier::back);
        refused("keep()", -4, FeatureUnifier::keep);
        tryEach("no node, no mark", RefusalsTest::empty);
    }

    private static FeatureUnifier withSixMarks() {
        FeatureUnifier x = empty();
        x.mark();
        Make.addNodes(x, 1, 2);
        x.mark();
        x.arc(0, 0, 1);
        x.node(3);
        x.mark();
        x.arc(1, 0, 2);
        x.arc(1, 1, 1);
        x.mark();
        x.unify(2, 1);
        x.mark();
        x.node(4);
        x.arc(3, 0, 3);
        x.mark();
        x.node(0);
        x.arc(4, 0, 0);
        return x;
    }

    private static void withNodesAndAllMarks() {
        refusals = new ArrayList<>();
        addBadArguments(5);
        refused("under(5, 6)", -2, x -> x.under(5, 6));
        refused("under(1, 3)", -2, x -> x.under(1, 3));
        refused("mark()", -2, FeatureUnifier::mark);
        refused("arc(2, 0, 4), has a value", -2, x -> x.arc(2, 0, 4));
        refused("arc(4, 0, 0), has this value", -2, x -> x.arc(4, 0, 0));
        refused("unify(3, 1)", -3, x -> x.unify(3, 1));
        refused("unify(0, 3), fails one value on", -3, x -> x.unify(0, 3));
        refused("unifiable(3, 0)", 0, x -> x.unifiable(3, 0) ? 1 : 0);
        tryEach("5 nodes, 6 marks", RefusalsTest::withSixMarks);
    }

    private static FeatureUnifier full() {
        FeatureUnifier x = empty();
        x.mark();
        for (int n = 0; n < 16; n++) {
            x.node(n == 15 ? 5 : n == 14 ? 6 : 0);
        }
        x.mark();
        for (int n = 0; n < 16; n++) {
            for (int f = 0; f < 3; f++) {
                x.arc(n, f, n + f + 1 < 16 ? n + f + 1 : n);
            }
        }
        return x;
    }

    private static void withAllNodesAndValues() {
        refusals = new ArrayList<>();
        addBadArguments(16);
        refused("node(0)", -2, x -> x.node(0));
        refused("node(7)", -2, x -> x.node(7));
        refused("arc(0, 0, 0)", -2, x -> x.arc(0, 0, 0));
        refused("arc(15, 2, 15)", -2, x -> x.arc(15, 2, 15));
        refused("unify(0, 1)", -3, x -> x.unify(0, 1));
        refused("unify(14, 15)", -3, x -> x.unify(14, 15));
        refused("unifiable(0, 1)", 0, x -> x.unifiable(0, 1) ? 1 : 0);
        refused("under(5, 6)", -2, x -> x.under(5, 6));
        tryEach("16 nodes, 48 values", RefusalsTest::full);
    }

    private static FeatureUnifier cleared() {
        FeatureUnifier x = withSixMarks();
        x.clear();
        return x;
    }

    private static void afterClear() {
        refusals = new ArrayList<>();
        addBadArguments(0);
        addUnfitHierarchies();
        refused("back()", -4, FeatureUnifier::back);
        refused("keep()", -4, FeatureUnifier::keep);
        tryEach("cleared", RefusalsTest::cleared);
    }
}
