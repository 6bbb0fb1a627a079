/** Long mixed runs, always the same ones, in which every answer is compared with that of the slow model. */
public final class ModelTest {
    private static final int RUNS = 700;
    private static final int MOST_CALLS = 512;
    private static final int CALLS_TO_LOOK = 99;

    private static long state;
    private static Both both;

    public static void main(String[] args) {
        for (int run = 0; run < RUNS && !Due.hopeless(); run++) {
            state = run * 7919L + 12345L;
            both = new Both("run " + run);
            buildHierarchy();
            int calls = 20 + below(MOST_CALLS - CALLS_TO_LOOK - 60);
            // Some runs hardly grow, some hardly merge, so that small and full structures both come up.
            int merging = 1 + below(6);
            for (int call = 0; call < calls; call++) {
                oneCall(merging);
            }
            both.lookAtAll();
            // Every other run goes to the last call that an object is promised for.
            while (run % 2 == 0 && both.calls() < MOST_CALLS) {
                oneCall(merging);
            }
        }
        Due.end();
    }

    private static int below(int bound) {
        state = state * 6364136223846793005L + 1442695040888963407L;
        return (int) ((state >>> 33) % bound);
    }

    private static void buildHierarchy() {
        int count = below(40);
        for (int k = 0; k < count; k++) {
            both.under(below(8), below(8));
        }
    }

    private static int someNode() {
        int count = both.modelNodes();
        boolean wrong = count == 0 || below(40) == 0;
        return wrong ? below(20) - 2 : below(count);
    }

    private static int someType() {
        return below(30) == 0 ? below(14) - 3 : below(3) == 0 ? 0 : below(8);
    }

    private static int someFeature() {
        return below(40) == 0 ? below(8) - 2 : below(3);
    }

    private static void oneCall(int merging) {
        int kind = below(100);
        if (kind < 12) {
            both.node(someType());
        } else if (kind < 36) {
            both.arc(someNode(), someFeature(), someNode());
        } else if (kind < 36 + merging) {
            both.unify(someNode(), someNode());
        } else if (kind < 55) {
            both.unifiable(someNode(), someNode());
        } else if (kind < 70) {
            both.subsumes(someNode(), someNode());
        } else if (kind < 86) {
            ask(someNode(), someFeature());
        } else if (kind < 97) {
            pile(below(9));
        } else {
            rare(below(20));
        }
    }

    private static void ask(int n, int f) {
        switch (below(5)) {
            case 0 -> both.classOf(n);
            case 1 -> both.typeOf(n);
            case 2 -> both.value(n, f);
            case 3 -> both.reach(n);
            default -> both.classes();
        }
    }

    private static void pile(int kind) {
        if (kind < 4) {
            both.mark();
        } else if (kind < 7) {
            both.back();
        } else {
            both.keep();
        }
    }

    private static void rare(int kind) {
        int a = someType();
        int b = someType();
        if (kind == 0) {
            both.clear();
        } else if (kind < 8) {
            both.under(a, b);
        } else if (kind < 14) {
            both.meet(a, b);
        } else {
            both.isUnder(a, b);
        }
    }
}
