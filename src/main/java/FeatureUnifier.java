/** Typed feature structures that are made one by unification; ../shared/DOC.md says what each call promises. */
public final class FeatureUnifier {
    public static final int BAD_ARG = -1;
    public static final int FULL = -2;
    public static final int CLASH = -3;
    public static final int NONE = -4;

    private static final int TYPES = 8;
    private static final int ALL_TYPES = 255;
    private static final int MAX_NODES = 16;
    private static final int FEATURES = 3;
    private static final int VALUES = MAX_NODES * FEATURES;
    private static final int MAX_MARKS = 6;

    // One slot for each mark, and one from which a unification that fails is taken back.
    private static final int TRIAL_SLOT = MAX_MARKS;
    private static final int SLOTS = MAX_MARKS + 1;
    private static final int SAVED_NODES = SLOTS * MAX_NODES;
    private static final int SAVED_VALUES = SLOTS * VALUES;

    // The first pair, and one for each feature at each merge; every merge leaves a class less.
    private static final int MAX_PENDING = 1 + FEATURES * (MAX_NODES - 1);

    // Bit a of lowerTypes[b] tells that type a lies under type b. The set is closed under transitivity.
    private final int[] lowerTypes = new int[TYPES];
    private final int[] triedLowerTypes = new int[TYPES];

    // classAt holds the least node of each node's class; types and values count at that node alone.
    private int nodeCount = 0;
    private final int[] classAt = new int[MAX_NODES];
    private final int[] typeAt = new int[MAX_NODES];
    private final int[] valueAt = new int[VALUES];

    private int markCount = 0;
    private final int[] savedNodeCount = new int[SLOTS];
    private final int[] savedClassAt = new int[SAVED_NODES];
    private final int[] savedTypeAt = new int[SAVED_NODES];
    private final int[] savedValueAt = new int[SAVED_VALUES];

    // Pairs of nodes whose classes still have to be made one.
    private int pendingCount = 0;
    private final int[] pendingLeft = new int[MAX_PENDING];
    private final int[] pendingRight = new int[MAX_PENDING];

    // For a comparison: the class h(C) given to each class C, or NONE.
    private final int[] image = new int[MAX_NODES];

    public FeatureUnifier() {
        for (int t = 0; t < TYPES; t++) {
            lowerTypes[t] = 1 << t;
        }
        lowerTypes[0] = ALL_TYPES;
    }

    public int under(int a, int b) {
        if (!isType(a) || !isType(b)) {
            return BAD_ARG;
        }
        if (nodeCount > 0) {
            return FULL;
        }
        boolean turnsRound = a != b && liesUnder(b, a);
        if (turnsRound) {
            return CLASH;
        }
        tryUnder(a, b);
        if (!everyMeetExists(triedLowerTypes)) {
            return CLASH;
        }
        for (int t = 0; t < TYPES; t++) {
            lowerTypes[t] = triedLowerTypes[t];
        }
        return countBits(lowerTypes[b]);
    }

    public boolean isUnder(int a, int b) {
        return isType(a) && isType(b) && liesUnder(a, b);
    }

    public int meet(int a, int b) {
        if (!isType(a) || !isType(b)) {
            return BAD_ARG;
        }
        return meetIn(lowerTypes, a, b);
    }

    public int node(int type) {
        if (!isType(type)) {
            return BAD_ARG;
        }
        if (nodeCount >= MAX_NODES) {
            return FULL;
        }
        int made = nodeCount;
        classAt[made] = made;
        typeAt[made] = type;
        for (int f = 0; f < FEATURES; f++) {
            valueAt[made * FEATURES + f] = NONE;
        }
        nodeCount = made + 1;
        return made;
    }

    public int nodes() {
        return nodeCount;
    }

    public int arc(int n, int f, int m) {
        if (!isNode(n) || !isNode(m) || !isFeature(f)) {
            return BAD_ARG;
        }
        int place = classAt[n] * FEATURES + f;
        if (valueAt[place] != NONE) {
            return FULL;
        }
        valueAt[place] = classAt[m];
        return 0;
    }

    public int unify(int n, int m) {
        if (!isNode(n) || !isNode(m)) {
            return BAD_ARG;
        }
        save(TRIAL_SLOT);
        if (!makeOne(n, m)) {
            restore(TRIAL_SLOT);
            return CLASH;
        }
        return countClasses();
    }

    public boolean unifiable(int n, int m) {
        if (!isNode(n) || !isNode(m)) {
            return false;
        }
        save(TRIAL_SLOT);
        boolean succeeds = makeOne(n, m);
        restore(TRIAL_SLOT);
        return succeeds;
    }

    public int classOf(int n) {
        return isNode(n) ? classAt[n] : BAD_ARG;
    }

    public int typeOf(int n) {
        return isNode(n) ? typeAt[classAt[n]] : BAD_ARG;
    }

    public int value(int n, int f) {
        if (!isNode(n) || !isFeature(f)) {
            return BAD_ARG;
        }
        return valueAt[classAt[n] * FEATURES + f];
    }

    public int classes() {
        return countClasses();
    }

    public int reach(int n) {
        if (!isNode(n)) {
            return BAD_ARG;
        }
        int reached = 1 << classAt[n];
        // No class is further away than there are nodes, so this many steps come to all.
        for (int step = 0; step < nodeCount; step++) {
            reached = withValuesOf(reached);
        }
        return countBits(reached);
    }

    public boolean subsumes(int n, int m) {
        if (!isNode(n) || !isNode(m)) {
            return false;
        }
        for (int c = 0; c < MAX_NODES; c++) {
            image[c] = NONE;
        }
        image[classAt[n]] = classAt[m];
        // Each round carries the images one value further, and the last one looks at the furthest class.
        for (int round = 0; round < nodeCount; round++) {
            if (!carryImagesOn()) {
                return false;
            }
        }
        return true;
    }

    public int mark() {
        if (markCount >= MAX_MARKS) {
            return FULL;
        }
        save(markCount);
        markCount++;
        return markCount;
    }

    public int back() {
        if (markCount <= 0) {
            return NONE;
        }
        markCount--;
        restore(markCount);
        return markCount;
    }

    public int keep() {
        if (markCount <= 0) {
            return NONE;
        }
        markCount--;
        return markCount;
    }

    public int marks() {
        return markCount;
    }

    public void clear() {
        nodeCount = 0;
        markCount = 0;
    }

    private static boolean isType(int t) {
        return t >= 0 && t < TYPES;
    }

    private static boolean isFeature(int f) {
        return f >= 0 && f < FEATURES;
    }

    private boolean isNode(int n) {
        return n >= 0 && n < nodeCount;
    }

    private static boolean hasBit(int set, int bit) {
        return (set >> bit & 1) != 0;
    }

    private static int countBits(int set) {
        int count = 0;
        for (int bit = 0; bit < MAX_NODES; bit++) {
            if (hasBit(set, bit)) {
                count++;
            }
        }
        return count;
    }

    private boolean liesUnder(int a, int b) {
        return hasBit(lowerTypes[b], a);
    }

    private void tryUnder(int a, int b) {
        for (int t = 0; t < TYPES; t++) {
            triedLowerTypes[t] = lowerTypes[t];
            if (liesUnder(b, t)) {
                triedLowerTypes[t] |= lowerTypes[a];
            }
        }
    }

    // Pairs are enough: the meet of more types is found by meeting them one after the other.
    private static boolean everyMeetExists(int[] lower) {
        for (int a = 0; a < TYPES; a++) {
            for (int b = 0; b < a; b++) {
                boolean haveLower = (lower[a] & lower[b]) != 0;
                if (haveLower && meetIn(lower, a, b) == NONE) {
                    return false;
                }
            }
        }
        return true;
    }

    private static int meetIn(int[] lower, int a, int b) {
        int common = lower[a] & lower[b];
        for (int t = 0; t < TYPES; t++) {
            // All that lies under a common lower type is common too, so the meet has just these under it.
            if (lower[t] == common) {
                return t;
            }
        }
        return NONE;
    }

    private int countClasses() {
        int count = 0;
        for (int n = 0; n < nodeCount; n++) {
            if (classAt[n] == n) {
                count++;
            }
        }
        return count;
    }

    private boolean makeOne(int n, int m) {
        pendingCount = 0;
        addPending(n, m);
        for (int at = 0; at < pendingCount && at < MAX_PENDING; at++) {
            int left = classAt[pendingLeft[at]];
            int right = classAt[pendingRight[at]];
            if (left != right && !merge(left, right)) {
                return false;
            }
        }
        return true;
    }

    private void addPending(int n, int m) {
        if (pendingCount < MAX_PENDING) {
            pendingLeft[pendingCount] = n;
            pendingRight[pendingCount] = m;
            pendingCount++;
        }
    }

    private boolean merge(int a, int b) {
        int type = meetIn(lowerTypes, typeAt[a], typeAt[b]);
        if (type == NONE) {
            return false;
        }
        int kept = a < b ? a : b;
        int gone = a < b ? b : a;
        typeAt[kept] = type;
        rename(gone, kept);
        joinValues(gone, kept);
        return true;
    }

    private void rename(int gone, int kept) {
        for (int n = 0; n < nodeCount; n++) {
            if (classAt[n] == gone) {
                classAt[n] = kept;
            }
        }
        for (int place = 0; place < nodeCount * FEATURES; place++) {
            if (valueAt[place] == gone) {
                valueAt[place] = kept;
            }
        }
    }

    private void joinValues(int gone, int kept) {
        for (int f = 0; f < FEATURES; f++) {
            int goneValue = valueAt[gone * FEATURES + f];
            int keptValue = valueAt[kept * FEATURES + f];
            if (keptValue == NONE) {
                valueAt[kept * FEATURES + f] = goneValue;
            } else if (goneValue != NONE && goneValue != keptValue) {
                addPending(goneValue, keptValue);
            }
        }
    }

    private int withValuesOf(int classSet) {
        int wider = classSet;
        for (int c = 0; c < nodeCount; c++) {
            for (int f = 0; f < FEATURES; f++) {
                int next = valueAt[c * FEATURES + f];
                if (hasBit(classSet, c) && next != NONE) {
                    wider |= 1 << next;
                }
            }
        }
        return wider;
    }

    private boolean carryImagesOn() {
        for (int c = 0; c < nodeCount; c++) {
            if (image[c] != NONE && !imageFits(c)) {
                return false;
            }
        }
        return true;
    }

    private boolean imageFits(int c) {
        int counterpart = image[c];
        if (!liesUnder(typeAt[counterpart], typeAt[c])) {
            return false;
        }
        for (int f = 0; f < FEATURES; f++) {
            int next = valueAt[c * FEATURES + f];
            int nextImage = valueAt[counterpart * FEATURES + f];
            if (next != NONE && !giveImage(next, nextImage)) {
                return false;
            }
        }
        return true;
    }

    private boolean giveImage(int c, int counterpart) {
        if (counterpart == NONE) {
            return false;
        }
        if (image[c] == NONE) {
            image[c] = counterpart;
        }
        return image[c] == counterpart;
    }

    private void save(int slot) {
        savedNodeCount[slot] = nodeCount;
        for (int n = 0; n < MAX_NODES; n++) {
            savedClassAt[slot * MAX_NODES + n] = classAt[n];
            savedTypeAt[slot * MAX_NODES + n] = typeAt[n];
        }
        for (int place = 0; place < VALUES; place++) {
            savedValueAt[slot * VALUES + place] = valueAt[place];
        }
    }

    private void restore(int slot) {
        nodeCount = savedNodeCount[slot];
        for (int n = 0; n < MAX_NODES; n++) {
            classAt[n] = savedClassAt[slot * MAX_NODES + n];
            typeAt[n] = savedTypeAt[slot * MAX_NODES + n];
        }
        for (int place = 0; place < VALUES; place++) {
            valueAt[place] = savedValueAt[slot * VALUES + place];
        }
    }
}
