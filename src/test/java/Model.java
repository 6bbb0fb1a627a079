import java.util.ArrayDeque;
import java.util.ArrayList;
import java.util.Arrays;
import java.util.Deque;
import java.util.HashMap;
import java.util.HashSet;
import java.util.List;
import java.util.Map;
import java.util.Set;

/**
 * The document taken by its words, slowly: the calls that were accepted are kept as they came (which type under which,
 * which arcs, which nodes were unified), and every answer is worked out anew from them.
 */
final class Model {
    private final List<int[]> unders = new ArrayList<>();
    private Facts facts = new Facts();
    private final Deque<Facts> marks = new ArrayDeque<>();

    /** What a mark keeps. */
    private static final class Facts {
        private final List<Integer> types = new ArrayList<>();
        private final List<int[]> arcs = new ArrayList<>();
        private final List<int[]> unified = new ArrayList<>();

        private Facts copy() {
            Facts copy = new Facts();
            copy.types.addAll(types);
            copy.arcs.addAll(arcs);
            copy.unified.addAll(unified);
            return copy;
        }
    }

    private static boolean isType(int t) {
        return 0 <= t && t <= 7;
    }

    private boolean isNode(int n) {
        return 0 <= n && n < facts.types.size();
    }

    private boolean[][] closure() {
        boolean[][] under = new boolean[8][8];
        for (int t = 0; t < 8; t++) {
            under[t][t] = true;
            under[t][0] = true;
        }
        for (int[] pair : unders) {
            under[pair[0]][pair[1]] = true;
        }
        for (int k = 0; k < 8; k++) {
            for (int i = 0; i < 8; i++) {
                for (int j = 0; j < 8; j++) {
                    under[i][j] |= under[i][k] && under[k][j];
                }
            }
        }
        return under;
    }

    private static List<Integer> lower(boolean[][] under, Set<Integer> types) {
        List<Integer> found = new ArrayList<>();
        for (int t = 0; t < 8; t++) {
            boolean all = true;
            for (int above : types) {
                all &= under[t][above];
            }
            if (all) {
                found.add(t);
            }
        }
        return found;
    }

    private static int meet(boolean[][] under, Set<Integer> types) {
        List<Integer> lower = lower(under, types);
        for (int t : lower) {
            boolean all = true;
            for (int other : lower) {
                all &= under[other][t];
            }
            if (all) {
                return t;
            }
        }
        return -4;
    }

    private static boolean fit(boolean[][] under) {
        for (int a = 0; a < 8; a++) {
            for (int b = 0; b < 8; b++) {
                if (a != b && under[a][b] && under[b][a]) {
                    return false;
                }
            }
        }
        for (int subset = 1; subset < 256; subset++) {
            Set<Integer> types = new HashSet<>();
            for (int t = 0; t < 8; t++) {
                if ((subset >> t & 1) == 1) {
                    types.add(t);
                }
            }
            if (!lower(under, types).isEmpty() && meet(under, types) == -4) {
                return false;
            }
        }
        return true;
    }

    int under(int a, int b) {
        if (!isType(a) || !isType(b)) {
            return -1;
        }
        if (!facts.types.isEmpty()) {
            return -2;
        }
        unders.add(new int[] {a, b});
        boolean[][] under = closure();
        if (!fit(under)) {
            unders.remove(unders.size() - 1);
            return -3;
        }
        int count = 0;
        for (int t = 0; t < 8; t++) {
            count += under[t][b] ? 1 : 0;
        }
        return count;
    }

    boolean isUnder(int a, int b) {
        return isType(a) && isType(b) && closure()[a][b];
    }

    int meet(int a, int b) {
        if (!isType(a) || !isType(b)) {
            return -1;
        }
        return meet(closure(), new HashSet<>(Arrays.asList(a, b)));
    }

    int node(int type) {
        if (!isType(type)) {
            return -1;
        }
        if (facts.types.size() == 16) {
            return -2;
        }
        facts.types.add(type);
        return facts.types.size() - 1;
    }

    int nodes() {
        return facts.types.size();
    }

    /** one[n][m]: whether n and m are in one class; the least such relation that the facts ask for. */
    private boolean[][] one(List<int[]> unified) {
        int count = facts.types.size();
        boolean[][] one = new boolean[count][count];
        for (int n = 0; n < count; n++) {
            one[n][n] = true;
        }
        for (int[] pair : unified) {
            one[pair[0]][pair[1]] = true;
            one[pair[1]][pair[0]] = true;
        }
        boolean grown = true;
        while (grown) {
            close(one);
            grown = false;
            for (int[] p : facts.arcs) {
                for (int[] q : facts.arcs) {
                    if (p[1] == q[1] && one[p[0]][q[0]] && !one[p[2]][q[2]]) {
                        one[p[2]][q[2]] = true;
                        one[q[2]][p[2]] = true;
                        grown = true;
                    }
                }
            }
        }
        return one;
    }

    private static void close(boolean[][] one) {
        for (int k = 0; k < one.length; k++) {
            for (int i = 0; i < one.length; i++) {
                for (int j = 0; j < one.length; j++) {
                    one[i][j] |= one[i][k] && one[k][j];
                }
            }
        }
    }

    private int typeOf(boolean[][] one, int n) {
        Set<Integer> types = new HashSet<>();
        for (int m = 0; m < one.length; m++) {
            if (one[n][m]) {
                types.add(facts.types.get(m));
            }
        }
        return meet(closure(), types);
    }

    private static int least(boolean[][] one, int n) {
        int m = 0;
        while (!one[n][m]) {
            m++;
        }
        return m;
    }

    private int value(boolean[][] one, int n, int f) {
        for (int[] arc : facts.arcs) {
            if (arc[1] == f && one[arc[0]][n]) {
                return least(one, arc[2]);
            }
        }
        return -4;
    }

    int arc(int n, int f, int m) {
        if (!isNode(n) || !isNode(m) || f < 0 || f > 2) {
            return -1;
        }
        if (value(one(facts.unified), n, f) != -4) {
            return -2;
        }
        facts.arcs.add(new int[] {n, f, m});
        return 0;
    }

    private boolean succeeds(int n, int m) {
        List<int[]> unified = new ArrayList<>(facts.unified);
        unified.add(new int[] {n, m});
        boolean[][] one = one(unified);
        for (int k = 0; k < one.length; k++) {
            if (typeOf(one, k) == -4) {
                return false;
            }
        }
        return true;
    }

    int unify(int n, int m) {
        if (!isNode(n) || !isNode(m)) {
            return -1;
        }
        if (!succeeds(n, m)) {
            return -3;
        }
        facts.unified.add(new int[] {n, m});
        return classes();
    }

    boolean unifiable(int n, int m) {
        return isNode(n) && isNode(m) && succeeds(n, m);
    }

    int classOf(int n) {
        return isNode(n) ? least(one(facts.unified), n) : -1;
    }

    int typeOf(int n) {
        return isNode(n) ? typeOf(one(facts.unified), n) : -1;
    }

    int value(int n, int f) {
        return isNode(n) && 0 <= f && f <= 2 ? value(one(facts.unified), n, f) : -1;
    }

    int classes() {
        boolean[][] one = one(facts.unified);
        Set<Integer> found = new HashSet<>();
        for (int n = 0; n < one.length; n++) {
            found.add(least(one, n));
        }
        return found.size();
    }

    int reach(int n) {
        if (!isNode(n)) {
            return -1;
        }
        boolean[][] one = one(facts.unified);
        Set<Integer> found = new HashSet<>();
        Deque<Integer> open = new ArrayDeque<>();
        open.add(least(one, n));
        while (!open.isEmpty()) {
            int c = open.remove();
            if (found.add(c)) {
                for (int f = 0; f < 3; f++) {
                    int next = value(one, c, f);
                    if (next != -4) {
                        open.add(next);
                    }
                }
            }
        }
        return found.size();
    }

    /** Walks all pairs (C, h(C)) that the ways from n force, and looks whether h is one-valued and fits. */
    boolean subsumes(int n, int m) {
        if (!isNode(n) || !isNode(m)) {
            return false;
        }
        boolean[][] one = one(facts.unified);
        boolean[][] under = closure();
        Map<Integer, Integer> h = new HashMap<>();
        Deque<int[]> open = new ArrayDeque<>();
        open.push(new int[] {least(one, n), least(one, m)});
        while (!open.isEmpty()) {
            int[] pair = open.pop();
            Integer before = h.putIfAbsent(pair[0], pair[1]);
            if (before != null && before != pair[1]) {
                return false;
            }
            if (before != null) {
                continue;
            }
            if (!under[typeOf(one, pair[1])][typeOf(one, pair[0])]) {
                return false;
            }
            for (int f = 0; f < 3; f++) {
                int from = value(one, pair[0], f);
                int to = value(one, pair[1], f);
                if (from != -4 && to == -4) {
                    return false;
                }
                if (from != -4) {
                    open.push(new int[] {from, to});
                }
            }
        }
        return true;
    }

    int mark() {
        if (marks.size() == 6) {
            return -2;
        }
        marks.push(facts.copy());
        return marks.size();
    }

    int back() {
        if (marks.isEmpty()) {
            return -4;
        }
        facts = marks.pop();
        return marks.size();
    }

    int keep() {
        if (marks.isEmpty()) {
            return -4;
        }
        marks.pop();
        return marks.size();
    }

    int marks() {
        return marks.size();
    }

    void clear() {
        facts = new Facts();
        marks.clear();
    }
}
