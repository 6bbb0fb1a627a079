/** "An object is used for at most 512 calls after it has been made": the 512th call is answered as the first one is. */
public final class CallsTest {
    private static final int MOST_CALLS = 512;

    public static void main(String[] args) {
        Due.sentence("An object is used for at most 512 calls after it has been made");
        marksToTheLastCall();
        nodesToTheLastCall();
        unificationsToTheLastCall();
        failuresToTheLastCall();
        trialsToTheLastCall();
        refusalsToTheLastCall();
        Due.end();
    }

    private static void marksToTheLastCall() {
        FeatureUnifier x = new FeatureUnifier();
        for (int call = 1; call <= MOST_CALLS; call += 4) {
            Due.is("mark() as call " + call, x.mark(), 1);
            Due.is("node(5) as call " + (call + 1), x.node(5), 0);
            Due.is("back() as call " + (call + 2), x.back(), 0);
            Due.is("nodes() as call " + (call + 3), x.nodes(), 0);
        }
    }

    private static void nodesToTheLastCall() {
        FeatureUnifier x = new FeatureUnifier();
        for (int call = 1; call <= MOST_CALLS; call += 32) {
            x.clear();
            for (int n = 0; n < 16; n++) {
                Due.is("node(" + n % 8 + ") as call " + (call + 1 + n), x.node(n % 8), n);
            }
            for (int n = 1; n < 16; n++) {
                Due.is("typeOf(" + n + ") as call " + (call + 16 + n), x.typeOf(n), n % 8);
            }
        }
    }

    private static void unificationsToTheLastCall() {
        FeatureUnifier x = Make.chain();
        int call = 31;
        for (; call + 3 <= MOST_CALLS; call += 3) {
            x.mark();
            Due.is("unify(1, 0) as call " + (call + 2), x.unify(1, 0), 1);
            Due.is("back() as call " + (call + 3), x.back(), 0);
        }
        for (; call < MOST_CALLS; call++) {
            Due.is("classes() as call " + (call + 1), x.classes(), 16);
        }
    }

    private static void failuresToTheLastCall() {
        FeatureUnifier x = Make.nodes(1, 2);
        for (int call = 3; call <= MOST_CALLS; call += 2) {
            Due.is("unify(0, 1) as call " + call, x.unify(0, 1), -3);
            Due.is("classes() as call " + (call + 1), x.classes(), 2);
        }
    }

    private static void trialsToTheLastCall() {
        FeatureUnifier x = Make.plain(4);
        for (int call = 5; call <= MOST_CALLS; call += 4) {
            Due.is("unifiable(0, 3) as call " + call, x.unifiable(0, 3), true);
            Due.is("subsumes(0, 3) as call " + (call + 1), x.subsumes(0, 3), true);
            Due.is("reach(3) as call " + (call + 2), x.reach(3), 1);
            Due.is("classOf(3) as call " + (call + 3), x.classOf(3), 3);
        }
    }

    private static void refusalsToTheLastCall() {
        FeatureUnifier x = new FeatureUnifier();
        for (int call = 1; call <= MOST_CALLS; call += 4) {
            Due.is("back() as call " + call, x.back(), -4);
            Due.is("under(0, 1) as call " + (call + 1), x.under(0, 1), -3);
            Due.is("node(8) as call " + (call + 2), x.node(8), -1);
            Due.is("arc(0, 0, 0) as call " + (call + 3), x.arc(0, 0, 0), -1);
        }
    }
}
