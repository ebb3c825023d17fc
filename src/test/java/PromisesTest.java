/** Each promise of the document with ordinary inputs and wrong ones; BoundariesTest has the edges. */
public final class PromisesTest {
    private static final int BAD = -1;
    private static final int NONE = -3;
    private static final int[] NO_HANDLES = {-1, 4, Integer.MIN_VALUE, Integer.MAX_VALUE};
    private static final int[] NO_LINKS = {-1, 2, Integer.MIN_VALUE, Integer.MAX_VALUE};
    private static int wrong = 0;

    public static void main(String[] args) {
        newObject();
        make();
        makeReusesLostObjects();
        getRoot();
        setRoot();
        follow();
        link();
        drop();
        value();
        setValue();
        same();
        commit();
        commitCountsChangedObjects();
        commitLeavesWorkingState();
        abort();
        crash();
        reachable();
        System.out.println(wrong == 0 ? "all promises hold" : wrong + " answers are not as due");
        if (wrong != 0) {
            System.exit(1);
        }
    }

    private static void due(String what, int got, int want) {
        if (got != want) {
            wrong++;
            System.out.println(what + ": answered " + got + ", due is " + want);
        }
    }

    private static void due(String what, boolean got, boolean want) {
        due(what, got ? 1 : 0, want ? 1 : 0);
    }

    /** A chain by link 0 from the root with the values 1 to length; handle 0 leads to its last object. */
    private static PersistentGraph chain(int length) {
        PersistentGraph g = new PersistentGraph();
        g.make(0, 1);
        g.setRoot(0);
        for (int value = 2; value <= length; value++) {
            g.make(1, value);
            g.link(0, 0, 1);
            g.follow(0, 0, 0);
        }
        g.drop(1);
        return g;
    }

    /** A committed root object 10, whose link 0 leads to an object 20; handles 0 and 1 lead to them. */
    private static PersistentGraph committedPair() {
        PersistentGraph g = new PersistentGraph();
        g.make(0, 10);
        g.make(1, 20);
        g.link(0, 0, 1);
        g.setRoot(0);
        g.commit();
        return g;
    }

    /** Compares root, values and links with those of committedPair, by handles 2 and 3. */
    private static void duePair(String what, PersistentGraph g) {
        due(what + ": objects", g.reachable(), 2);
        due(what + ": root", g.getRoot(2), 1);
        due(what + ": root's value", g.value(2), 10);
        due(what + ": root's link 1", g.follow(3, 2, 1), 0);
        due(what + ": root's link 0", g.follow(3, 2, 0), 1);
        due(what + ": second value", g.value(3), 20);
        due(what + ": second link 0", g.follow(2, 3, 0), 0);
        due(what + ": second link 1", g.follow(2, 3, 1), 0);
    }

    private static void dueNoHandles(String what, PersistentGraph g) {
        for (int h = 0; h < 4; h++) {
            due(what + ": drop(" + h + ")", g.drop(h), 0);
        }
    }

    private static void newObject() {
        PersistentGraph g = new PersistentGraph();
        dueNoHandles("new", g);
        due("new: reachable", g.reachable(), 0);
        due("new: getRoot", g.getRoot(0), 0);
        due("new: abort", new PersistentGraph().abort(), 0);
        due("new: commit", new PersistentGraph().commit(), 0);
        PersistentGraph other = new PersistentGraph();
        g.make(0, 5);
        g.setRoot(0);
        due("new: objects stand apart", other.reachable(), 0);
    }

    private static void make() {
        PersistentGraph g = new PersistentGraph();
        int[] values = {7, Integer.MIN_VALUE, Integer.MAX_VALUE, -1};
        for (int h = 0; h < 4; h++) {
            due("make: answers h", g.make(h, values[h]), h);
        }
        for (int h = 0; h < 4; h++) {
            due("make: value", g.value(h), values[h]);
            due("make: not the root", g.reachable(), 0);
        }
        due("make: link 0", g.follow(1, 0, 0), 0);
        due("make: link 1", g.follow(2, 0, 1), 0);
        for (int h : NO_HANDLES) {
            due("make: wrong h", g.make(h, 1), BAD);
        }
        PersistentGraph twice = new PersistentGraph();
        twice.make(0, 1);
        twice.setRoot(0);
        twice.make(0, 2);
        twice.getRoot(1);
        due("make: a second object", twice.same(0, 1), false);
        due("make: the first keeps its value", twice.value(1), 1);
    }

    private static void makeReusesLostObjects() {
        PersistentGraph g = new PersistentGraph();
        for (int n = 0; n < 40; n++) {
            due("make: lost objects make room", g.make(0, n), 0);
            due("make: a new link 0", g.follow(1, 0, 0), 0);
            due("make: a new link 1", g.follow(1, 0, 1), 0);
            g.link(0, 0, 0);
            g.link(0, 1, 0);
        }
        PersistentGraph pair = committedPair();
        pair.setRoot(3);
        pair.drop(0);
        pair.drop(1);
        for (int n = 0; n < 40; n++) {
            pair.make(0, n);
            pair.link(0, 0, 0);
        }
        pair.abort();
        duePair("make: committed objects aren't written over", pair);
    }

    private static void getRoot() {
        PersistentGraph g = new PersistentGraph();
        g.make(0, 5);
        due("getRoot: nothing", g.getRoot(0), 0);
        due("getRoot: h leads to nothing then", g.drop(0), 0);
        g.make(0, 6);
        g.setRoot(0);
        for (int h = 0; h < 4; h++) {
            due("getRoot: an object", g.getRoot(h), 1);
            due("getRoot: the same object", g.same(h, 0), true);
        }
        for (int h : NO_HANDLES) {
            due("getRoot: wrong h", g.getRoot(h), BAD);
        }
    }

    private static void setRoot() {
        PersistentGraph g = new PersistentGraph();
        due("setRoot: nothing to nothing", g.setRoot(0), 0);
        for (int h = 0; h < 4; h++) {
            g.make(h, h + 5);
            due("setRoot: an object", g.setRoot(h), 1);
            due("setRoot: reachable", g.reachable(), 1);
        }
        g.getRoot(0);
        due("setRoot: the object of the last handle", g.same(0, 3), true);
        g.drop(1);
        due("setRoot: to nothing", g.setRoot(1), 0);
        due("setRoot: none reachable", g.reachable(), 0);
        due("setRoot: handles stay", g.value(3), 8);
        for (int h : NO_HANDLES) {
            due("setRoot: wrong h", g.setRoot(h), BAD);
        }
    }

    private static void follow() {
        PersistentGraph g = new PersistentGraph();
        g.make(0, 10);
        g.make(1, 20);
        g.make(2, 30);
        g.link(0, 0, 1);
        g.link(0, 1, 2);
        due("follow: link 0", g.follow(3, 0, 0), 1);
        due("follow: link 0's object", g.same(3, 1), true);
        due("follow: link 1", g.follow(3, 0, 1), 1);
        due("follow: link 1's object", g.same(3, 2), true);
        due("follow: to nothing", g.follow(3, 1, 0), 0);
        due("follow: h leads to nothing then", g.drop(3), 0);
        due("follow: g leads to nothing", g.follow(1, 3, 0), NONE);
        due("follow: NONE leaves h", g.value(1), 20);
        due("follow: h is g", g.follow(0, 0, 1), 1);
        due("follow: h is g, the object", g.same(0, 2), true);
        for (int bad : NO_HANDLES) {
            due("follow: wrong h", g.follow(bad, 0, 0), BAD);
            due("follow: wrong g", g.follow(0, bad, 0), BAD);
            due("follow: BAD h goes before NONE", g.follow(bad, 3, 0), BAD);
        }
        for (int bad : NO_LINKS) {
            due("follow: wrong which", g.follow(0, 1, bad), BAD);
            due("follow: BAD which goes before NONE", g.follow(0, 3, bad), BAD);
        }
    }

    private static void link() {
        PersistentGraph g = new PersistentGraph();
        g.make(0, 10);
        g.make(1, 20);
        g.setRoot(0);
        due("link: link 1", g.link(0, 1, 1), 1);
        due("link: link 0 stays", g.follow(2, 0, 0), 0);
        due("link: link 1 leads to it", g.follow(2, 0, 1), 1);
        due("link: the object", g.same(2, 1), true);
        due("link: link 0", g.link(0, 0, 0), 1);
        due("link: to itself", g.follow(2, 0, 0), 1);
        due("link: itself", g.same(2, 0), true);
        g.follow(2, 0, 1);
        due("link: link 1 stays", g.same(2, 1), true);
        g.drop(3);
        due("link: to nothing", g.link(0, 1, 3), 0);
        due("link: nothing there", g.follow(2, 0, 1), 0);
        due("link: h leads to nothing", g.link(3, 0, 0), NONE);
        due("link: h and g lead to nothing", g.link(3, 1, 3), NONE);
        for (int bad : NO_HANDLES) {
            due("link: wrong h", g.link(bad, 0, 0), BAD);
            due("link: wrong g", g.link(0, 0, bad), BAD);
            due("link: BAD g goes before NONE", g.link(3, 0, bad), BAD);
        }
        for (int bad : NO_LINKS) {
            due("link: wrong which", g.link(0, bad, 1), BAD);
            due("link: BAD which goes before NONE", g.link(3, bad, 1), BAD);
        }
    }

    private static void drop() {
        PersistentGraph g = committedPair();
        due("drop: an object", g.drop(1), 1);
        due("drop: nothing there then", g.drop(1), 0);
        due("drop: its value", g.value(1), 0);
        due("drop: other handles stay", g.value(0), 10);
        due("drop: the object stays", g.follow(1, 0, 0), 1);
        due("drop: with its value", g.value(1), 20);
        for (int h : NO_HANDLES) {
            due("drop: wrong h", g.drop(h), BAD);
        }
    }

    private static void value() {
        PersistentGraph g = new PersistentGraph();
        due("value: nothing", g.value(0), 0);
        g.make(0, -3);
        g.make(3, 17);
        due("value: a value like NONE", g.value(0), -3);
        due("value: handle 3", g.value(3), 17);
        for (int h : NO_HANDLES) {
            due("value: wrong h", g.value(h), 0);
        }
    }

    private static void setValue() {
        PersistentGraph g = committedPair();
        due("setValue: an object", g.setValue(1, Integer.MIN_VALUE), 1);
        due("setValue: its value", g.value(1), Integer.MIN_VALUE);
        due("setValue: other values stay", g.value(0), 10);
        g.follow(2, 0, 0);
        due("setValue: by another handle", g.value(2), Integer.MIN_VALUE);
        due("setValue: to zero", g.setValue(1, 0), 1);
        due("setValue: zero", g.value(1), 0);
        due("setValue: nothing", g.setValue(3, 1), NONE);
        for (int h : NO_HANDLES) {
            due("setValue: wrong h", g.setValue(h, 1), BAD);
        }
    }

    private static void same() {
        PersistentGraph g = new PersistentGraph();
        due("same: both nothing", g.same(0, 1), false);
        due("same: nothing with itself", g.same(0, 0), false);
        g.make(0, 5);
        g.make(1, 5);
        due("same: alike but two", g.same(0, 1), false);
        due("same: with itself", g.same(1, 1), true);
        due("same: g leads to nothing", g.same(2, 0), false);
        due("same: h leads to nothing", g.same(0, 2), false);
        g.link(0, 0, 1);
        g.follow(3, 0, 0);
        due("same: two handles", g.same(3, 1), true);
        due("same: the other way round", g.same(1, 3), true);
        for (int bad : NO_HANDLES) {
            due("same: wrong g", g.same(bad, 0), false);
            due("same: wrong h", g.same(0, bad), false);
            due("same: both wrong", g.same(bad, bad), false);
        }
    }

    private static void commit() {
        PersistentGraph g = new PersistentGraph();
        g.make(0, 10);
        g.make(1, 20);
        g.link(0, 0, 1);
        g.make(2, 30);
        g.link(2, 0, 0);
        g.setRoot(0);
        due("commit: only what the root comes to", g.commit(), 2);
        due("commit: nothing changed since", g.commit(), 0);
        due("commit: abort after it", g.abort(), 2);
        duePair("commit", g);

        PersistentGraph shrunk = committedPair();
        shrunk.link(0, 0, 3);
        due("commit: a link to nothing", shrunk.commit(), 1);
        due("commit: one object left", shrunk.abort(), 1);

        PersistentGraph emptied = committedPair();
        emptied.setRoot(3);
        due("commit: the root to nothing", emptied.commit(), 0);
        due("commit: no object left", emptied.abort(), 0);

        due("commit: all twelve", chain(12).commit(), 12);
    }

    private static void commitCountsChangedObjects() {
        PersistentGraph g = committedPair();
        g.setValue(1, 21);
        due("commit: a value", g.commit(), 1);
        g.setValue(1, 22);
        g.setValue(1, 21);
        due("commit: a value set back", g.commit(), 0);
        g.link(0, 1, 0);
        due("commit: link 1", g.commit(), 1);
        g.link(0, 0, 3);
        g.link(0, 0, 1);
        due("commit: a link set back", g.commit(), 0);
        g.link(1, 0, 0);
        due("commit: link 0", g.commit(), 1);
        g.setValue(0, 1);
        g.link(0, 0, 0);
        g.link(0, 1, 1);
        due("commit: one object changed three times", g.commit(), 1);
        g.make(2, 21);
        g.link(0, 1, 2);
        due("commit: an alike object in another's stead", g.commit(), 2);
        g.setValue(1, 5);
        due("commit: a change that the root doesn't come to", g.commit(), 0);
        g.link(2, 0, 1);
        due("commit: an object that had left the committed state", g.commit(), 2);
        g.setRoot(2);
        due("commit: the root's move is no changed object", g.commit(), 0);
    }

    private static void commitLeavesWorkingState() {
        PersistentGraph g = committedPair();
        g.make(2, 30);
        g.make(3, 40);
        g.link(2, 1, 3);
        g.drop(3);
        g.commit();
        due("commit: handle 0 stays", g.value(0), 10);
        due("commit: handle 1 stays", g.value(1), 20);
        due("commit: an object of a handle stays", g.value(2), 30);
        due("commit: with its links", g.follow(3, 2, 1), 1);
        due("commit: and what they lead to", g.value(3), 40);
        g.getRoot(3);
        due("commit: the root stays", g.same(3, 0), true);
        g.setRoot(2);
        due("commit: objects of handles are new to it", g.commit(), 2);
        due("commit: the former objects are gone from it", g.abort(), 2);
        g.getRoot(0);
        due("commit: the new root", g.value(0), 30);
    }

    private static void abort() {
        PersistentGraph g = committedPair();
        g.make(2, 30);
        g.setValue(0, 11);
        g.setValue(1, 21);
        g.link(0, 1, 2);
        g.link(1, 0, 0);
        g.link(0, 0, 3);
        g.setRoot(2);
        due("abort: the number of committed objects", g.abort(), 2);
        dueNoHandles("abort", g);
        duePair("abort", g);
        due("abort: nothing changed after it", g.commit(), 0);

        PersistentGraph lost = committedPair();
        lost.link(0, 0, 3);
        lost.drop(1);
        lost.setRoot(3);
        lost.drop(0);
        due("abort: lost objects come back", lost.abort(), 2);
        duePair("abort of a loss", lost);

        PersistentGraph fresh = chain(5);
        due("abort: nothing committed", fresh.abort(), 0);
        due("abort: nothing reachable", fresh.reachable(), 0);
        dueNoHandles("abort of new objects", fresh);
    }

    private static void crash() {
        PersistentGraph g = committedPair();
        g.make(2, 30);
        g.setValue(1, 21);
        g.link(0, 1, 2);
        due("crash: too early", g.crash(3), 0);
        dueNoHandles("crash, too early", g);
        duePair("crash, too early", g);

        PersistentGraph valid = committedPair();
        valid.make(2, 30);
        valid.make(3, 40);
        valid.setValue(1, 21);
        valid.link(0, 1, 2);
        due("crash: with the mark", valid.crash(4), 1);
        dueNoHandles("crash with the mark", valid);
        due("crash: the committed objects", valid.abort(), 3);
        due("crash: the root", valid.getRoot(0), 1);
        due("crash: the root's value", valid.value(0), 10);
        valid.follow(1, 0, 0);
        due("crash: a value", valid.value(1), 21);
        valid.follow(1, 0, 1);
        due("crash: a new object", valid.value(1), 30);
    }

    private static void reachable() {
        for (int length = 1; length <= 12; length++) {
            due("reachable: a chain", chain(length).reachable(), length);
        }
        PersistentGraph ring = chain(12);
        ring.getRoot(1);
        ring.link(0, 0, 1);
        ring.link(0, 1, 1);
        due("reachable: a ring counts each object once", ring.reachable(), 12);
        ring.setRoot(0);
        due("reachable: a ring from another object", ring.reachable(), 12);

        PersistentGraph g = committedPair();
        g.make(2, 30);
        g.link(2, 0, 0);
        due("reachable: handles don't count", g.reachable(), 2);
        g.link(0, 1, 2);
        due("reachable: by link 1", g.reachable(), 3);
        g.link(0, 0, 3);
        due("reachable: the working state counts", g.reachable(), 2);
        g.setRoot(3);
        due("reachable: no root", g.reachable(), 0);

        PersistentGraph backwards = new PersistentGraph();
        for (int n = 0; n < 12; n++) {
            backwards.make(1, n);
            backwards.link(1, 1, 0);
            backwards.link(1, 0, 1);
            backwards.follow(0, 1, 0);
            backwards.drop(1);
            backwards.setRoot(0);
            due("reachable: a chain built from its end", backwards.reachable(), n + 1);
        }
    }
}
