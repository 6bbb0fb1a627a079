/** The edges of promises 8 and 9 and of what "Terms" says of unifying, a test for each sentence. */
public final class UnifyEdgesTest {
    public static void main(String[] args) {
        unifyTakesTheFirstAndTheLastNode();
        unifyWithoutNodeN();
        unifyWithoutNodeM();
        unifyWithItself();
        unifyWhatIsOneAlready();
        unifyFailsAtOnce();
        unifyFailsAtTheLastValue();
        unifyFailsByTypesThatMeetInPairsOnly();
        unifyTestsTheRangeBeforeTheTypes();
        unifyGoesOnUntilNoMoreHasToBeMadeOne();
        unifyOfAClassWithItsOwnValue();
        unifyWithAllValuesThere();
        unifyKeepsASingleValue();
        unifyAnswersTheLeastAndTheGreatestCount();
        unifiableWithoutNodes();
        unifiableWithItself();
        unifiableIsWhatUnifyWouldAccept();
        unifiableChangesNothing();
        Due.end();
    }

    private static void unifyTakesTheFirstAndTheLastNode() {
        Due.sentence("no node n or m (the first and the last are)");
        Due.is("unify(0, 15)", Make.plain(16).unify(0, 15), 15);
        Due.is("unify(15, 0)", Make.plain(16).unify(15, 0), 15);
        Due.is("unify(15, 15)", Make.plain(16).unify(15, 15), 16);
        Due.is("unify(0, 0)", Make.plain(1).unify(0, 0), 1);
    }

    private static void unifyWithoutNodeN() {
        Due.sentence("no node n answers BAD_ARG (unify)");
        for (int count = 0; count <= 16; count += 4) {
            FeatureUnifier x = Make.plain(count);
            String before = Look.all(x);
            for (int wrong : Wrong.nodes(count)) {
                Due.is(count + " nodes: unify(" + wrong + ", 0)", x.unify(wrong, 0), -1);
            }
            Due.same("afterwards", Look.all(x), before);
        }
    }

    private static void unifyWithoutNodeM() {
        Due.sentence("no node m answers BAD_ARG (unify)");
        for (int count = 0; count <= 16; count += 4) {
            FeatureUnifier x = Make.plain(count);
            String before = Look.all(x);
            for (int wrong : Wrong.nodes(count)) {
                Due.is(count + " nodes: unify(0, " + wrong + ")", x.unify(0, wrong), -1);
                Due.is(count + " nodes: unify(" + wrong + ", " + wrong + ")", x.unify(wrong, wrong), -1);
            }
            Due.same("afterwards", Look.all(x), before);
        }
    }

    private static void unifyWithItself() {
        Due.sentence("Unifies the classes of n and m (they may be one node)");
        FeatureUnifier x = Make.structure();
        String before = Look.all(x);
        for (int n = 0; n < 5; n++) {
            Due.is("unify(" + n + ", " + n + ")", x.unify(n, n), 5);
        }
        Due.same("afterwards", Look.all(x), before);
    }

    private static void unifyWhatIsOneAlready() {
        Due.sentence("Unifies the classes of n and m (they may be one class)");
        FeatureUnifier x = Make.structure();
        Due.is("unify(0, 1)", x.unify(0, 1), 3);
        String before = Look.all(x);
        Due.is("unify(0, 1) again", x.unify(0, 1), 3);
        Due.is("unify(1, 0)", x.unify(1, 0), 3);
        Due.is("unify(3, 2), one since then", x.unify(3, 2), 3);
        Due.same("afterwards", Look.all(x), before);
    }

    private static void unifyFailsAtOnce() {
        Due.sentence("the unification fails answers CLASH");
        FeatureUnifier x = Make.nodes(1, 7, 0);
        x.arc(0, 0, 2);
        x.arc(1, 1, 2);
        String before = Look.all(x);
        Due.is("unify(0, 1)", x.unify(0, 1), -3);
        Due.is("unify(1, 0)", x.unify(1, 0), -3);
        Due.same("afterwards", Look.all(x), before);
    }

    private static void unifyFailsAtTheLastValue() {
        Due.sentence("if for some resulting class these have no lower type, the unification FAILS (and nothing is changed)");
        // Two chains of eight; only the types of their ends are strangers.
        FeatureUnifier x = new FeatureUnifier();
        x.under(3, 1);
        x.under(3, 2);
        for (int n = 0; n < 8; n++) {
            x.node(n == 7 ? 4 : 1);
            x.node(n == 7 ? 5 : 2);
        }
        for (int n = 0; n < 14; n++) {
            x.arc(n, n % 3, n + 2);
            x.arc(n, (n + 1) % 3, n);
        }
        String before = Look.all(x);
        Due.is("unify(12, 13), before the ends", x.unify(12, 13), -3);
        Due.same("after unify(12, 13)", Look.all(x), before);
        Due.is("unify(0, 1)", x.unify(0, 1), -3);
        Due.same("after unify(0, 1)", Look.all(x), before);
        Due.is("unify(15, 14)", x.unify(15, 14), -3);
        Due.same("after unify(15, 14)", Look.all(x), before);
    }

    private static void unifyFailsByTypesThatMeetInPairsOnly() {
        Due.sentence("The type of each resulting class is the meet of the types of the classes it was made of (of all of them)");
        int[][] orders = {{0, 1, 2}, {1, 2, 0}, {2, 0, 1}};
        for (int[] order : orders) {
            FeatureUnifier x = new FeatureUnifier();
            x.under(4, 1);
            x.under(4, 2);
            x.under(5, 2);
            x.under(5, 3);
            x.under(6, 1);
            x.under(6, 3);
            Make.addNodes(x, 1, 2, 3);
            Due.is("unify(" + order[0] + ", " + order[1] + ")", x.unify(order[0], order[1]), 2);
            String before = Look.all(x);
            Due.is("unify(" + order[1] + ", " + order[2] + ")", x.unify(order[1], order[2]), -3);
            Due.same("afterwards", Look.all(x), before);
        }
    }

    private static void unifyTestsTheRangeBeforeTheTypes() {
        Due.sentence("Tested in this order: no node n or m; the unification fails");
        FeatureUnifier x = Make.nodes(1, 2);
        Due.is("nodes that clash: unify(0, 1)", x.unify(0, 1), -3);
        for (int wrong : Wrong.nodes(2)) {
            Due.is("unify(1, " + wrong + ")", x.unify(1, wrong), -1);
            Due.is("unify(" + wrong + ", 1)", x.unify(wrong, 1), -1);
        }
    }

    private static void unifyGoesOnUntilNoMoreHasToBeMadeOne() {
        Due.sentence("and so on until no more has to be made one");
        // A chain of 16 in which two neighbours are made one falls into one class, link by link.
        FeatureUnifier x = Make.chain();
        Due.is("chain: unify(0, 1)", x.unify(0, 1), 1);
        for (int n = 0; n < 16; n++) {
            Due.is("classOf(" + n + ")", x.classOf(n), 0);
        }
        Due.is("value(15, 0)", x.value(15, 0), 0);

        // Made one at the far end, all others stay.
        FeatureUnifier y = Make.chain();
        Due.is("chain: unify(14, 15)", y.unify(14, 15), 15);
        Due.is("value(15, 0)", y.value(15, 0), 14);
        Due.is("classOf(13)", y.classOf(13), 13);

        // Every second one: two classes stay.
        FeatureUnifier z = Make.chain();
        Due.is("chain: unify(2, 0)", z.unify(2, 0), 2);
        Due.is("value(15, 0)", z.value(15, 0), 0);
        Due.is("value(14, 0)", z.value(14, 0), 1);
    }

    private static void unifyOfAClassWithItsOwnValue() {
        Due.sentence("wherever a class has, from the classes it was made of, two values for one feature, these are made one too");
        // The value of the class that is made is that class itself.
        FeatureUnifier x = Make.plain(2);
        x.arc(0, 1, 1);
        Due.is("unify(0, 1)", x.unify(0, 1), 1);
        Due.is("value(0, 1)", x.value(0, 1), 0);
        FeatureUnifier y = Make.plain(2);
        y.arc(0, 0, 1);
        y.arc(1, 0, 0);
        Due.is("each other's value: unify(1, 0)", y.unify(1, 0), 1);
        Due.is("value(1, 0)", y.value(1, 0), 0);
    }

    private static void unifyWithAllValuesThere() {
        Due.sentence("and so on until no more has to be made one (with all 48 values there)");
        FeatureUnifier x = Make.plain(16);
        for (int n = 0; n < 16; n++) {
            x.arc(n, 0, (n + 1) % 16);
            x.arc(n, 1, (n + 5) % 16);
            x.arc(n, 2, (n * 3 + 7) % 16);
        }
        Due.is("unifiable(0, 1)", x.unifiable(0, 1), true);
        Due.is("unify(3, 12)", x.unify(3, 12), 1);
        Due.is("classOf(15)", x.classOf(15), 0);

        // Here only nodes of the other parity stay apart.
        FeatureUnifier y = Make.plain(16);
        for (int n = 0; n < 16; n++) {
            for (int f = 0; f < 3; f++) {
                y.arc(n, f, (n + 2 * f + 1) % 16);
            }
        }
        Due.is("unify(14, 12)", y.unify(14, 12), 2);
        for (int n = 0; n < 16; n++) {
            Due.is("classOf(" + n + ")", y.classOf(n), n % 2);
        }
    }

    private static void unifyKeepsASingleValue() {
        Due.sentence("two values for one feature (a single value, of either class, is kept)");
        FeatureUnifier x = Make.plain(4);
        x.arc(0, 0, 2);
        x.arc(1, 2, 3);
        Due.is("unify(0, 1)", x.unify(0, 1), 3);
        Due.is("value(0, 0)", x.value(0, 0), 2);
        Due.is("value(0, 1)", x.value(0, 1), -4);
        Due.is("value(0, 2)", x.value(0, 2), 3);
        Due.is("classOf(3)", x.classOf(3), 3);
    }

    private static void unifyAnswersTheLeastAndTheGreatestCount() {
        Due.sentence("Otherwise the number of classes that there are afterwards");
        FeatureUnifier x = Make.plain(16);
        Due.is("unify(7, 7)", x.unify(7, 7), 16);
        for (int n = 1; n < 16; n++) {
            Due.is("unify(" + n + ", 0)", x.unify(n, 0), 16 - n);
        }
        Due.is("unify(15, 14)", x.unify(15, 14), 1);
    }

    private static void unifiableWithoutNodes() {
        Due.sentence("Whether unify(n, m) would be accepted (not without a node n or m)");
        for (int count = 0; count <= 16; count += 4) {
            FeatureUnifier x = Make.plain(count);
            String before = Look.all(x);
            for (int wrong : Wrong.nodes(count)) {
                Due.is(count + " nodes: unifiable(" + wrong + ", 0)", x.unifiable(wrong, 0), false);
                Due.is(count + " nodes: unifiable(0, " + wrong + ")", x.unifiable(0, wrong), false);
                Due.is(count + " nodes: unifiable(" + wrong + ", " + wrong + ")", x.unifiable(wrong, wrong), false);
            }
            Due.same("afterwards", Look.all(x), before);
        }
    }

    private static void unifiableWithItself() {
        Due.sentence("Whether unify(n, m) would be accepted (a node with itself is)");
        FeatureUnifier x = Make.nodes(0, 1, 2, 7);
        for (int n = 0; n < 4; n++) {
            Due.is("unifiable(" + n + ", " + n + ")", x.unifiable(n, n), true);
        }
    }

    private static void unifiableIsWhatUnifyWouldAccept() {
        Due.sentence("Whether unify(n, m) would be accepted");
        for (int n = 0; n < 7; n++) {
            for (int m = 0; m < 7; m++) {
                FeatureUnifier x = Make.structure();
                Make.addNodes(x, 4, 0);
                x.arc(5, 0, 5);
                x.arc(6, 0, 5);
                x.arc(2, 1, 0);
                x.arc(3, 1, 5);
                boolean told = x.unifiable(n, m);
                Due.is("unifiable(" + n + ", " + m + ")", told, x.unify(n, m) >= 0);
            }
        }
    }

    private static void unifiableChangesNothing() {
        Due.sentence("nothing is changed (unifiable)");
        FeatureUnifier x = Make.structure();
        x.mark();
        x.node(4);
        x.arc(2, 0, 5);
        x.arc(3, 0, 2);
        String before = Look.all(x);
        Due.is("fails after two steps: unifiable(0, 1)", x.unifiable(0, 1), false);
        Due.same("after unifiable(0, 1)", Look.all(x), before);
        Due.is("unifiable(3, 2)", x.unifiable(3, 2), false);
        Due.is("unifiable(0, 4)", x.unifiable(0, 4), true);
        Due.is("unifiable(4, 5)", x.unifiable(4, 5), true);
        Due.same("after unifiable(4, 5)", Look.all(x), before);
        Due.is("unify(4, 5)", x.unify(4, 5), 5);
        Due.is("back()", x.back(), 0);
        Due.same("after back", Look.all(x), Look.all(Make.structure()));
    }
}
