/** Long mixed runs, always the same ones, in which every answer is compared with that of the slow model. */
public final class ModelTest {
    private static final int RUNS = 700;
    // An object is promised for 512 calls; those that look at everything at the end of a run come on top.
    private static final int CALLS = 390;

    private static long state;
    private static FeatureUnifier x;
    private static Model model;
    private static String name;

    public static void main(String[] args) {
        for (int run = 0; run < RUNS && !Due.hopeless(); run++) {
            state = run * 7919L + 12345L;
            x = new FeatureUnifier();
            model = new Model();
            buildHierarchy(run);
            int calls = 20 + below(CALLS - 60);
            // Some runs hardly grow, some hardly merge, so that small and full structures both come up.
            int merging = 1 + below(6);
            for (int call = 0; call < calls; call++) {
                name = "run " + run + " call " + call + ": ";
                oneCall(merging);
            }
            name = "run " + run + " at its end: ";
            lookAtAll();
        }
        Due.end();
    }

    private static int below(int bound) {
        state = state * 6364136223846793005L + 1442695040888963407L;
        return (int) ((state >>> 33) % bound);
    }

    private static void buildHierarchy(int run) {
        name = "run " + run + " hierarchy: ";
        int count = below(40);
        for (int k = 0; k < count; k++) {
            under(below(8), below(8));
        }
    }

    private static int someNode() {
        int count = model.nodes();
        boolean wrong = count == 0 || below(40) == 0;
        return wrong ? below(20) - 2 : below(count);
    }

    private static int someType() {
        return below(30) == 0 ? below(14) - 3 : below(3) == 0 ? 0 : below(8);
    }

    private static int someFeature() {
        return below(40) == 0 ? below(8) - 2 : below(3);
    }

    private static void oneCall(int merging) {
        int kind = below(100);
        if (kind < 12) {
            int type = someType();
            Due.is(name + "node(" + type + ")", x.node(type), model.node(type));
        } else if (kind < 36) {
            arc(someNode(), someFeature(), someNode());
        } else if (kind < 36 + merging) {
            int n = someNode();
            int m = someNode();
            Due.is(name + "unify(" + n + ", " + m + ")", x.unify(n, m), model.unify(n, m));
        } else if (kind < 70) {
            compare(someNode(), someNode());
        } else if (kind < 86) {
            ask(someNode(), someFeature());
        } else if (kind < 97) {
            pile(below(9));
        } else {
            rare(below(20));
        }
    }

    private static void under(int a, int b) {
        Due.is(name + "under(" + a + ", " + b + ")", x.under(a, b), model.under(a, b));
    }

    private static void arc(int n, int f, int m) {
        Due.is(name + "arc(" + n + ", " + f + ", " + m + ")", x.arc(n, f, m), model.arc(n, f, m));
    }

    private static void compare(int n, int m) {
        if (below(2) == 0) {
            Due.is(name + "subsumes(" + n + ", " + m + ")", x.subsumes(n, m), model.subsumes(n, m));
        } else {
            Due.is(name + "unifiable(" + n + ", " + m + ")", x.unifiable(n, m), model.unifiable(n, m));
        }
    }

    private static void ask(int n, int f) {
        switch (below(5)) {
            case 0 -> Due.is(name + "classOf(" + n + ")", x.classOf(n), model.classOf(n));
            case 1 -> Due.is(name + "typeOf(" + n + ")", x.typeOf(n), model.typeOf(n));
            case 2 -> Due.is(name + "value(" + n + ", " + f + ")", x.value(n, f), model.value(n, f));
            case 3 -> Due.is(name + "reach(" + n + ")", x.reach(n), model.reach(n));
            default -> Due.is(name + "classes()", x.classes(), model.classes());
        }
    }

    private static void pile(int kind) {
        if (kind < 4) {
            Due.is(name + "mark()", x.mark(), model.mark());
        } else if (kind < 7) {
            Due.is(name + "back()", x.back(), model.back());
        } else {
            Due.is(name + "keep()", x.keep(), model.keep());
        }
    }

    private static void rare(int kind) {
        int a = someType();
        int b = someType();
        if (kind == 0) {
            x.clear();
            model.clear();
        } else if (kind < 8) {
            under(a, b);
        } else if (kind < 14) {
            Due.is(name + "meet(" + a + ", " + b + ")", x.meet(a, b), model.meet(a, b));
        } else {
            Due.is(name + "isUnder(" + a + ", " + b + ")", x.isUnder(a, b), model.isUnder(a, b));
        }
    }

    private static void lookAtAll() {
        Due.is(name + "nodes()", x.nodes(), model.nodes());
        Due.is(name + "classes()", x.classes(), model.classes());
        Due.is(name + "marks()", x.marks(), model.marks());
        for (int n = 0; n < model.nodes(); n++) {
            Due.is(name + "classOf(" + n + ")", x.classOf(n), model.classOf(n));
            Due.is(name + "typeOf(" + n + ")", x.typeOf(n), model.typeOf(n));
            Due.is(name + "reach(" + n + ")", x.reach(n), model.reach(n));
            for (int f = 0; f < 3; f++) {
                Due.is(name + "value(" + n + ", " + f + ")", x.value(n, f), model.value(n, f));
            }
        }
    }
}
