import java.util.ArrayList;
import java.util.Arrays;
import java.util.List;
import java.util.function.BiConsumer;
import java.util.function.Consumer;

/** "No call ever throws": every call with every argument at and beyond the edges, in states from none to full, beside the model. */
public final class ArgumentsTest {
    // Those in range, just out of it, at the ends of int, and those that a shift or a product wraps back into the range.
    private static final int[] TYPES = {0, 1, 6, 7};
    private static final int[] NODES = {0, 1, 2, 3, 8, 14, 15};
    private static final int[] FEATURES = {0, 1, 2};

    private static String state;
    private static Consumer<Both> build;

    public static void main(String[] args) {
        Due.sentence("No call ever throws");
        everyCall("new", both -> { });
        everyCall("one node", ArgumentsTest::oneNode);
        everyCall("three nodes", ArgumentsTest::threeNodes);
        everyCall("full", ArgumentsTest::full);
        everyCall("gone back", ArgumentsTest::goneBack);
        everyCall("cleared", ArgumentsTest::cleared);
        Due.end();
    }

    private static void hierarchy(Both both) {
        both.under(3, 1);
        both.under(3, 2);
        both.under(7, 3);
    }

    private static void oneNode(Both both) {
        hierarchy(both);
        both.node(1);
    }

    private static void threeNodes(Both both) {
        hierarchy(both);
        both.node(1);
        both.node(2);
        both.mark();
        both.node(0);
        both.arc(0, 0, 1);
        both.arc(2, 2, 2);
    }

    private static void full(Both both) {
        hierarchy(both);
        for (int n = 0; n < 16; n++) {
            both.node(n % 4);
            if (n % 3 == 0) {
                both.mark();
            }
        }
        for (int n = 0; n < 16; n++) {
            for (int f = 0; f < 3; f++) {
                both.arc(n, f, (n + 5 * f + 1) % 16);
            }
        }
    }

    private static void goneBack(Both both) {
        threeNodes(both);
        both.mark();
        for (int n = 0; n < 16; n++) {
            both.node(0);
            both.arc(n, 1, 0);
        }
        both.unify(0, 2);
        both.back();
    }

    private static void cleared(Both both) {
        full(both);
        both.unify(0, 1);
        both.clear();
    }

    private static Both made() {
        Both both = new Both(state);
        build.accept(both);
        return both;
    }

    private static void everyCall(String name, Consumer<Both> builder) {
        state = name;
        build = builder;
        int[] types = with(TYPES, Wrong.TYPES);
        int[] nodes = with(NODES, Wrong.nodes(16));
        int[] features = with(FEATURES, Wrong.FEATURES);
        eachPair(types, types, Both::under);
        eachPair(types, types, Both::isUnder);
        eachPair(types, types, Both::meet);
        each(types, Both::node);
        each(nodes, Both::classOf);
        each(nodes, Both::typeOf);
        each(nodes, Both::reach);
        eachPair(nodes, features, Both::value);
        eachPair(nodes, nodes, Both::unify);
        eachPair(nodes, nodes, Both::unifiable);
        eachPair(nodes, nodes, Both::subsumes);
        for (int f : features) {
            eachPair(nodes, nodes, (both, n, m) -> both.arc(n, f, m));
        }
        without();
    }

    private interface Call {
        void on(Both both, int first, int second);
    }

    private static void each(int[] arguments, BiConsumer<Both, Integer> call) {
        Both both = made();
        for (int argument : arguments) {
            call.accept(both, argument);
        }
        both.lookAtAll();
    }

    private static void eachPair(int[] firsts, int[] seconds, Call call) {
        for (int first : firsts) {
            Both both = made();
            for (int second : seconds) {
                call.on(both, first, second);
            }
            both.lookAtAll();
        }
    }

    /** The calls without arguments, more often than the pile of marks is high. */
    private static void without() {
        List<Consumer<Both>> calls = new ArrayList<>(Arrays.asList(Both::nodes, Both::classes, Both::marks, Both::mark, Both::back,
                Both::keep, Both::clear));
        for (Consumer<Both> call : calls) {
            Both both = made();
            for (int k = 0; k < 8; k++) {
                call.accept(both);
            }
            both.lookAtAll();
        }
    }

    private static int[] with(int[] right, int[] wrong) {
        int[] all = Arrays.copyOf(right, right.length + wrong.length);
        System.arraycopy(wrong, 0, all, right.length, wrong.length);
        return all;
    }
}
