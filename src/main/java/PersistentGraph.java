/** A persistent object graph with transactions, crashes and collection. */
public final class PersistentGraph {
    public static final int BAD = -1;
    public static final int FULL = -2;
    public static final int NONE = -3;

    private static final int HANDLES = 4;
    private static final int LINKS = 2;

    // Objects bear the numbers 1 to OBJECTS. Number 0 stands for nothing, so
    // that a new array leads to nothing everywhere without being filled.
    private static final int NOTHING = 0;
    private static final int OBJECTS = 12;
    private static final int SLOTS = 13;
    private static final int LINK_SLOTS = 26;

    private int root;
    private final int[] handles = new int[HANDLES];
    private final int[] values = new int[SLOTS];
    private final int[] links = new int[LINK_SLOTS];

    private int committedRoot;
    private final boolean[] committed = new boolean[SLOTS];
    private final int[] committedValues = new int[SLOTS];
    private final int[] committedLinks = new int[LINK_SLOTS];

    // Holds only within one call. reached[NOTHING] may be set, so that no mark
    // has to ask first; no count looks at it.
    private final boolean[] reached = new boolean[SLOTS];

    public PersistentGraph() {
        root = NOTHING;
        committedRoot = NOTHING;
    }

    public int make(int h, int value) {
        if (!isHandle(h)) {
            return BAD;
        }
        int object = findUnused();
        if (object == NOTHING) {
            return FULL;
        }
        values[object] = value;
        for (int which = 0; which < LINKS; which++) {
            links[object * LINKS + which] = NOTHING;
        }
        handles[h] = object;
        return h;
    }

    public int getRoot(int h) {
        if (!isHandle(h)) {
            return BAD;
        }
        handles[h] = root;
        return oneIfObject(root);
    }

    public int setRoot(int h) {
        if (!isHandle(h)) {
            return BAD;
        }
        root = handles[h];
        return oneIfObject(root);
    }

    public int follow(int h, int g, int which) {
        if (!isHandle(h) || !isHandle(g) || !isLink(which)) {
            return BAD;
        }
        int from = handles[g];
        if (from == NOTHING) {
            return NONE;
        }
        int to = links[from * LINKS + which];
        handles[h] = to;
        return oneIfObject(to);
    }

    public int link(int h, int which, int g) {
        if (!isHandle(h) || !isHandle(g) || !isLink(which)) {
            return BAD;
        }
        int from = handles[h];
        if (from == NOTHING) {
            return NONE;
        }
        int to = handles[g];
        links[from * LINKS + which] = to;
        return oneIfObject(to);
    }

    public int drop(int h) {
        if (!isHandle(h)) {
            return BAD;
        }
        int before = handles[h];
        handles[h] = NOTHING;
        return oneIfObject(before);
    }

    public int value(int h) {
        if (!isHandle(h) || handles[h] == NOTHING) {
            return 0;
        }
        return values[handles[h]];
    }

    public int setValue(int h, int value) {
        if (!isHandle(h)) {
            return BAD;
        }
        if (handles[h] == NOTHING) {
            return NONE;
        }
        values[handles[h]] = value;
        return 1;
    }

    public boolean same(int g, int h) {
        if (!isHandle(g) || !isHandle(h)) {
            return false;
        }
        return handles[g] != NOTHING && handles[g] == handles[h];
    }

    public int commit() {
        reachFromRoot();
        int changed = countChanged();
        commitReached();
        return changed;
    }

    public int abort() {
        restoreCommitted();
        return countCommitted();
    }

    public int crash(int writes) {
        reachFromRoot();
        int changed = countChanged();
        // The mark is the step after the changed objects, so it is written
        // only if there are more steps than changed objects.
        boolean valid = writes > changed;
        if (valid) {
            commitReached();
        }
        restoreCommitted();
        return valid ? 1 : 0;
    }

    public int reachable() {
        reachFromRoot();
        int count = 0;
        for (int object = 1; object <= OBJECTS; object++) {
            if (reached[object]) {
                count++;
            }
        }
        return count;
    }

    private static boolean isHandle(int h) {
        return h >= 0 && h < HANDLES;
    }

    private static boolean isLink(int which) {
        return which >= 0 && which < LINKS;
    }

    private static int oneIfObject(int object) {
        return object == NOTHING ? 0 : 1;
    }

    // Collection happens here: a number is free again as soon as its object is
    // no longer in use, so nothing has to be kept up when handles or links move.
    private int findUnused() {
        clearReached();
        reached[root] = true;
        for (int h = 0; h < HANDLES; h++) {
            reached[handles[h]] = true;
        }
        spreadReached();
        for (int object = 1; object <= OBJECTS; object++) {
            if (!reached[object] && !committed[object]) {
                return object;
            }
        }
        return NOTHING;
    }

    private void reachFromRoot() {
        clearReached();
        reached[root] = true;
        spreadReached();
    }

    private void clearReached() {
        for (int object = 0; object < SLOTS; object++) {
            reached[object] = false;
        }
    }

    // A way that meets no object twice has fewer than OBJECTS links, and each
    // pass goes at least one link further, so that OBJECTS passes are enough.
    private void spreadReached() {
        for (int pass = 0; pass < OBJECTS; pass++) {
            for (int object = 1; object <= OBJECTS; object++) {
                if (reached[object]) {
                    reached[links[object * LINKS]] = true;
                    reached[links[object * LINKS + 1]] = true;
                }
            }
        }
    }

    private int countChanged() {
        int count = 0;
        for (int object = 1; object <= OBJECTS; object++) {
            if (reached[object] && differsFromCommitted(object)) {
                count++;
            }
        }
        return count;
    }

    // The number of an object of the committed state is never given to another
    // object, so equal numbers mean the same object in both states.
    private boolean differsFromCommitted(int object) {
        int first = object * LINKS;
        return !committed[object]
            || values[object] != committedValues[object]
            || links[first] != committedLinks[first]
            || links[first + 1] != committedLinks[first + 1];
    }

    private int countCommitted() {
        int count = 0;
        for (int object = 1; object <= OBJECTS; object++) {
            if (committed[object]) {
                count++;
            }
        }
        return count;
    }

    // What is copied of objects that are not reached is never looked at:
    // nothing in the committed state leads to them.
    private void commitReached() {
        committedRoot = root;
        for (int object = 1; object <= OBJECTS; object++) {
            committed[object] = reached[object];
            committedValues[object] = values[object];
        }
        for (int slot = 0; slot < LINK_SLOTS; slot++) {
            committedLinks[slot] = links[slot];
        }
    }

    private void restoreCommitted() {
        root = committedRoot;
        for (int h = 0; h < HANDLES; h++) {
            handles[h] = NOTHING;
        }
        for (int object = 1; object <= OBJECTS; object++) {
            values[object] = committedValues[object];
        }
        for (int slot = 0; slot < LINK_SLOTS; slot++) {
            links[slot] = committedLinks[slot];
        }
    }
}
