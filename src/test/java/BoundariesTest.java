import java.util.ArrayList;
import java.util.List;
import java.util.function.Supplier;
import java.util.function.ToIntFunction;

/** A test of its own for each sentence of the document that names a boundary case. */
public final class BoundariesTest {
    private static final int BAD = -1;
    private static final int FULL = -2;
    private static final int NONE = -3;
    private static final int MIN = Integer.MIN_VALUE;
    private static final int MAX = Integer.MAX_VALUE;

    // The powers of two become 0 where an argument is cut to fewer bits.
    private static final int[] NO_HANDLES = {-1, 4, -4, 5, 8, 256, 65536, MIN, MIN + 1, MAX};
    private static final int[] NO_LINKS = {-1, 2, -2, 3, 4, 256, 65536, MIN, MIN + 1, MAX};
    private static final int[] VALUES = {0, 1, -1, -2, -3, 256, 65536, MIN, MAX};

    private static String sentence;
    private static int wrong = 0;
    private static int holding = 0;

    public static void main(String[] args) {
        terms();
        termsOfUse();
        promisesOfHandlesAndRoot();
        promisesOfLinksAndValues();
        promisesOfTransactions();
        System.out.println(holding + " sentences hold, " + wrong + " answers are not as due");
        if (wrong != 0) {
            System.exit(1);
        }
    }

    private static void terms() {
        test("What it is: used for at most 512 calls after it has been made", BoundariesTest::calls512);
        test("Terms: OBJECTS have an int value", BoundariesTest::intValue);
        test("Terms: two links, 0 and 1, each of which leads to an object or to nothing", BoundariesTest::twoLinks);
        test("Terms: a ROOT, which leads to an object or to nothing", BoundariesTest::oneRoot);
        test("Terms: four HANDLES, 0 to 3", BoundariesTest::fourHandles);
        test("Terms: a root with the objects that can be come to from it by links", BoundariesTest::committedIsReached);
        test("Terms: as they were at the latest valid commit", BoundariesTest::latestValidCommit);
        test("Terms: in the beginning: the root leads to nothing", BoundariesTest::committedInTheBeginning);
        test("Terms: Right after an abort or a crash it has the root and the objects of the committed state, "
            + "with their values and links there", BoundariesTest::rightAfterAbortOrCrash);
        test("Terms: and all handles lead to nothing", BoundariesTest::noHandlesAfterAbortOrCrash);
        test("Terms: a commit leaves its root, its handles and all of its objects as they are",
            BoundariesTest::commitLeavesAll);
        test("Terms: All calls but commit, abort and crash work on the working state",
            BoundariesTest::othersWorkOnTheWorkingState);
    }

    private static void termsOfUse() {
        test("Terms: IN USE, from its root", BoundariesTest::inUseFromTheRoot);
        test("Terms: IN USE, or from a handle", BoundariesTest::inUseFromAHandle);
        test("Terms: IN USE, or is an object of the committed state", BoundariesTest::inUseAsCommitted);
        test("Terms: IN USE iff (an object in use in several ways)", BoundariesTest::inUseCountsOnce);
        test("Terms: IN USE iff (an object not in use)", BoundariesTest::notInUse);
        test("Terms: IN USE, by links of the working state", BoundariesTest::inUseByWorkingLinks);
        test("Terms: At most 12 objects are in use", BoundariesTest::atMostTwelve);
        test("Terms: CHANGED iff it can be come to by links of the working state from its root",
            BoundariesTest::changedFromTheRoot);
        test("Terms: CHANGED, no object of the committed state", BoundariesTest::changedAsNew);
        test("Terms: CHANGED, its value is not the same there", BoundariesTest::changedValue);
        test("Terms: CHANGED, one of its links is not the same there", BoundariesTest::changedLinks);
        test("Terms: a value that has been set back counts as not changed", BoundariesTest::setBack);
    }

    private static void promisesOfHandlesAndRoot() {
        test("1: The root and all handles lead to nothing", BoundariesTest::newObject);
        test("2: a new object with this value and both links leading to nothing", BoundariesTest::makeNewObject);
        test("2: h outside 0..3: BAD", BoundariesTest::makeBad);
        test("2: 12 objects are in use: FULL", BoundariesTest::makeFull);
        test("2: what h leads to counting as it is before the call", BoundariesTest::makeCountsBefore);
        test("2: Tested in this order", BoundariesTest::makeOrder);
        test("2: Else answers h", BoundariesTest::makeAnswersH);
        test("3: Handle h leads to what the root leads to", BoundariesTest::getRootLeads);
        test("3: h outside 0..3: BAD", BoundariesTest::getRootBad);
        test("3: Answers 1 if that is an object, else 0", BoundariesTest::getRootAnswers);
        test("4: The root leads to what handle h leads to", BoundariesTest::setRootLeads);
        test("4: h outside 0..3: BAD", BoundariesTest::setRootBad);
        test("4: Answers 1 if that is an object, else 0", BoundariesTest::setRootAnswers);
    }

    private static void promisesOfLinksAndValues() {
        test("5: Handle h leads to what link number which of the object of handle g leads to",
            BoundariesTest::followLeads);
        test("5: h or g outside 0..3 or which outside 0..1: BAD", BoundariesTest::followBad);
        test("5: handle g leads to nothing: NONE", BoundariesTest::followNone);
        test("5: Answers 1 if h leads to an object then, else 0", BoundariesTest::followAnswers);
        test("6: Link number which of the object of handle h leads to what handle g leads to",
            BoundariesTest::linkLeads);
        test("6: h or g outside 0..3 or which outside 0..1: BAD", BoundariesTest::linkBad);
        test("6: handle h leads to nothing: NONE", BoundariesTest::linkNone);
        test("6: Answers 1 if that is an object, else 0", BoundariesTest::linkAnswers);
        test("7: Handle h leads to nothing", BoundariesTest::dropLeads);
        test("7: h outside 0..3: BAD", BoundariesTest::dropBad);
        test("7: Answers 1 if it led to an object, else 0", BoundariesTest::dropAnswers);
        test("8: 0 if h is outside 0..3", BoundariesTest::valueOutside);
        test("8: 0 if h leads to nothing", BoundariesTest::valueOfNothing);
        test("9: h outside 0..3: BAD", BoundariesTest::setValueBad);
        test("9: it leads to nothing: NONE", BoundariesTest::setValueNone);
        test("9: Answers 1", BoundariesTest::setValueAnswers);
        test("10: Whether two handles lead to the same object", BoundariesTest::sameObject);
        test("10: false if one is outside 0..3", BoundariesTest::sameOutside);
        test("10: false if one leads to nothing", BoundariesTest::sameNothing);
    }

    private static void promisesOfTransactions() {
        test("11: The working state's root and the objects that can be come to from it become the committed state",
            BoundariesTest::commitBecomes);
        test("11: Answers the number of objects that were changed", BoundariesTest::commitAnswers);
        test("12: The working state becomes the committed state", BoundariesTest::abortBecomes);
        test("12: answers the number of objects in it", BoundariesTest::abortAnswers);
        test("13: writes below 0 counts as 0", BoundariesTest::crashBelowZero);
        test("13: the first d steps write the changed objects to a log", BoundariesTest::crashInTheLog);
        test("13: step d + 1 writes the mark that makes the commit valid", BoundariesTest::crashAtTheMark);
        test("13: what is after that only moves data", BoundariesTest::crashAfterTheMark);
        test("13: the working state's root and objects become the committed state", BoundariesTest::crashCommits);
        test("13: else the committed state stays", BoundariesTest::crashStays);
        test("13: Then the working state becomes the committed state", BoundariesTest::crashRestores);
        test("13: Answers 1 if the commit was valid, else 0", BoundariesTest::crashAnswers);
        test("13: d the number of changed objects (none is changed)", BoundariesTest::crashWithNoneChanged);
        test("14: The number of objects that can be come to by links from the working root",
            BoundariesTest::reachableCounts);
        test("14: the working root", BoundariesTest::reachableFromWorkingRootAlone);
    }

    private static void test(String words, Runnable body) {
        sentence = words;
        int before = wrong;
        body.run();
        if (wrong == before) {
            holding++;
        }
    }

    private static void due(String call, int got, int want) {
        if (got != want) {
            wrong++;
            System.out.println(sentence + " -- " + call + " answered " + got + ", due is " + want);
        }
    }

    private static void due(String call, boolean got, boolean want) {
        due(call, got ? 1 : 0, want ? 1 : 0);
    }

    /** The call is refused with this answer, and the graph is then as it is without the call. */
    private static void refused(String call, Supplier<PersistentGraph> build, ToIntFunction<PersistentGraph> run,
            int want) {
        due(call, run.applyAsInt(build.get()), want);
        List<Integer> without = looks(build);
        List<Integer> with = looks(() -> {
            PersistentGraph g = build.get();
            run.applyAsInt(g);
            return g;
        });
        due(call + ": looks like before", with.equals(without), true);
    }

    /** The answers of many looks at a graph, most of them at one built anew, since a look moves handles. */
    private static List<Integer> looks(Supplier<PersistentGraph> build) {
        List<Integer> answers = new ArrayList<>();
        PersistentGraph g = build.get();
        answers.add(g.reachable());
        lookAtHandles(g, answers);
        for (int start = -1; start < 4; start++) {
            walks(build, start, answers);
        }
        answers.add(makesUntilFull(build.get()));
        answers.add(build.get().commit());
        answers.add(build.get().abort());
        walks(() -> aborted(build.get()), -1, answers);
        return answers;
    }

    private static void lookAtHandles(PersistentGraph g, List<Integer> answers) {
        for (int h = 0; h < 4; h++) {
            answers.add(g.value(h));
            for (int other = 0; other < 4; other++) {
                answers.add(g.same(h, other) ? 1 : 0);
            }
        }
    }

    /** All walks by three links, from the root where start is -1, else from the handle start. */
    private static void walks(Supplier<PersistentGraph> build, int start, List<Integer> answers) {
        for (int way = 0; way < 8; way++) {
            PersistentGraph g = build.get();
            int h = start;
            if (start == -1) {
                h = 0;
                answers.add(g.getRoot(h));
            }
            for (int step = 0; step < 3; step++) {
                answers.add(g.follow(h, h, way >> step & 1));
                lookAtHandles(g, answers);
            }
        }
    }

    private static PersistentGraph aborted(PersistentGraph g) {
        g.abort();
        return g;
    }

    /** How many objects can be made and held, one behind the other, by handle 1; handle 0 is used up. */
    private static int makesUntilFull(PersistentGraph g) {
        g.drop(0);
        int made = 0;
        while (made < 100 && g.make(0, made) == 0) {
            g.link(0, 0, 1);
            g.link(0, 1, 0);
            g.follow(1, 0, 1);
            g.drop(0);
            made++;
        }
        return made;
    }

    /** Handle 1 leads to a chain of so many objects with the values 0 to length - 1, the last made first. */
    private static PersistentGraph held(int length) {
        PersistentGraph g = new PersistentGraph();
        for (int n = 0; n < length; n++) {
            g.make(0, n);
            g.link(0, 0, 1);
            g.link(0, 1, 0);
            g.follow(1, 0, 1);
        }
        g.drop(0);
        return g;
    }

    /** The same chain with the root leading to it and no handle. */
    private static PersistentGraph rooted(int length) {
        PersistentGraph g = held(length);
        g.setRoot(1);
        g.drop(1);
        return g;
    }

    /** Each handle h leads to an object of its own with the value 100 + h. */
    private static PersistentGraph fourMade() {
        PersistentGraph g = new PersistentGraph();
        for (int h = 0; h < 4; h++) {
            g.make(h, 100 + h);
        }
        return g;
    }

    /** Committed: a root object 10, whose link 0 leads to an object 20; handles 0 and 1 lead to them. */
    private static PersistentGraph pair() {
        PersistentGraph g = new PersistentGraph();
        g.make(0, 10);
        g.make(1, 20);
        g.link(0, 0, 1);
        g.setRoot(0);
        g.commit();
        return g;
    }

    /** The pair with all of it changed since: 3 objects, all changed, and the root at the new one, handle 2's. */
    private static PersistentGraph changedPair() {
        PersistentGraph g = pair();
        g.make(2, 30);
        g.link(2, 1, 0);
        g.setRoot(2);
        g.setValue(0, 11);
        g.link(0, 1, 1);
        g.setValue(1, 21);
        g.link(1, 0, 2);
        return g;
    }

    /** Like the pair, as one comes to it from the root, by handles 2 and 3. */
    private static void duePair(PersistentGraph g) {
        due("reachable()", g.reachable(), 2);
        due("getRoot(2)", g.getRoot(2), 1);
        due("value(2)", g.value(2), 10);
        due("follow(3, 2, 1)", g.follow(3, 2, 1), 0);
        due("follow(3, 2, 0)", g.follow(3, 2, 0), 1);
        due("value(3)", g.value(3), 20);
        due("follow(2, 3, 0)", g.follow(2, 3, 0), 0);
        due("follow(2, 3, 1)", g.follow(2, 3, 1), 0);
    }

    /** Like the changed pair, as one comes to it from the root, by all handles. */
    private static void dueChangedPair(PersistentGraph g) {
        due("reachable()", g.reachable(), 3);
        due("getRoot(2)", g.getRoot(2), 1);
        due("value(2)", g.value(2), 30);
        due("follow(0, 2, 0)", g.follow(0, 2, 0), 0);
        due("follow(0, 2, 1)", g.follow(0, 2, 1), 1);
        due("value(0)", g.value(0), 11);
        due("follow(3, 0, 0)", g.follow(3, 0, 0), 1);
        due("follow(1, 0, 1)", g.follow(1, 0, 1), 1);
        due("same(1, 3)", g.same(1, 3), true);
        due("value(1)", g.value(1), 21);
        due("follow(3, 1, 1)", g.follow(3, 1, 1), 0);
        due("follow(3, 1, 0)", g.follow(3, 1, 0), 1);
        due("same(3, 2)", g.same(3, 2), true);
    }

    private static void dueNoHandles(PersistentGraph g) {
        for (int h = 0; h < 4; h++) {
            due("drop(" + h + ")", g.drop(h), 0);
        }
    }

    // What it is, and Terms

    private static void calls512() {
        PersistentGraph makes = new PersistentGraph();
        PersistentGraph values = pair();
        PersistentGraph ends = new PersistentGraph();
        for (int call = 1; call <= 512; call++) {
            due("make(0, 5), call " + call, makes.make(0, 5), 0);
            due("crash(1), call " + call, ends.crash(1), 1);
        }
        for (int call = 6; call <= 510; call += 2) {
            due("setValue(1, n), call " + call, values.setValue(1, call), 1);
            due("commit(), call " + (call + 1), values.commit(), 1);
        }
        due("value(1), call 512", values.value(1), 510);
    }

    private static void intValue() {
        for (int value : VALUES) {
            PersistentGraph g = new PersistentGraph();
            g.make(0, value);
            g.make(1, 7);
            g.setValue(1, value);
            g.link(0, 0, 1);
            g.setRoot(0);
            due("value of make", g.value(0), value);
            due("value of setValue", g.value(1), value);
            g.commit();
            g.abort();
            g.getRoot(0);
            due("value of make after commit and abort", g.value(0), value);
            g.follow(1, 0, 0);
            due("value of setValue after commit and abort", g.value(1), value);
        }
    }

    private static void twoLinks() {
        PersistentGraph g = held(12);
        for (int made = 11; made > 0; made--) {
            g.follow(2, 1, 1);
            due("link 1 to itself", g.same(1, 2), true);
            due("link 0 to another", g.follow(1, 1, 0), 1);
            due("same(1, 2)", g.same(1, 2), false);
        }
        due("the last link 0", g.follow(2, 1, 0), 0);
        due("the last link 1", g.follow(2, 1, 1), 1);
        g.drop(3);
        due("link 1 to nothing", g.link(1, 1, 3), 0);
        due("link 1 leads to nothing", g.follow(2, 1, 1), 0);
    }

    private static void oneRoot() {
        PersistentGraph g = new PersistentGraph();
        due("getRoot(0), no root yet", g.getRoot(0), 0);
        for (int h = 0; h < 4; h++) {
            g.make(h, h);
            due("setRoot(" + h + ")", g.setRoot(h), 1);
        }
        g.getRoot(0);
        due("the latest root", g.same(0, 3), true);
        g.drop(0);
        due("setRoot(0), to nothing", g.setRoot(0), 0);
        due("getRoot(3)", g.getRoot(3), 0);
    }

    private static void fourHandles() {
        PersistentGraph g = new PersistentGraph();
        for (int h = 0; h < 4; h++) {
            due("make(" + h + ")", g.make(h, 100 + h), h);
        }
        for (int h = 0; h < 4; h++) {
            due("value(" + h + ")", g.value(h), 100 + h);
            due("setValue(" + h + ")", g.setValue(h, 200 + h), 1);
            due("link(" + h + ", 0, itself)", g.link(h, 0, h), 1);
            due("follow(itself, " + h + ", 0)", g.follow(h, h, 0), 1);
            due("same(" + h + ", itself)", g.same(h, h), true);
            due("setRoot(" + h + ")", g.setRoot(h), 1);
            due("getRoot(" + h + ")", g.getRoot(h), 1);
        }
        for (int h = 0; h < 4; h++) {
            due("value(" + h + ")", g.value(h), 200 + h);
            due("drop(" + h + ")", g.drop(h), 1);
        }
    }

    private static void committedIsReached() {
        PersistentGraph g = pair();
        g.make(2, 30);
        g.link(2, 0, 0);
        g.commit();
        due("abort(), a handle's object led to the root's", g.abort(), 2);
        PersistentGraph shrunk = pair();
        shrunk.link(0, 0, 3);
        shrunk.commit();
        due("abort(), the second is come to by a handle alone", shrunk.abort(), 1);
        PersistentGraph none = held(5);
        none.commit();
        due("abort(), no root", none.abort(), 0);
        PersistentGraph ring = rooted(12);
        ring.commit();
        due("abort(), twelve that lead to themselves too", ring.abort(), 12);
    }

    private static void latestValidCommit() {
        PersistentGraph g = pair();
        g.setValue(0, 11);
        g.commit();
        g.setValue(0, 12);
        due("crash(1), not valid", g.crash(1), 0);
        g.getRoot(0);
        due("value(0), of the commit before", g.value(0), 11);
        g.setValue(0, 13);
        due("crash(2), valid", g.crash(2), 1);
        g.getRoot(0);
        g.setValue(0, 14);
        g.abort();
        g.getRoot(0);
        due("value(0), of the valid crash", g.value(0), 13);
        g.setValue(0, 15);
        g.commit();
        g.commit();
        g.setValue(0, 16);
        g.abort();
        g.abort();
        g.getRoot(0);
        due("value(0), of the latest commit", g.value(0), 15);
    }

    private static void committedInTheBeginning() {
        PersistentGraph aborted = rooted(3);
        due("abort(), nothing committed", aborted.abort(), 0);
        due("getRoot(0) after the abort", aborted.getRoot(0), 0);
        PersistentGraph crashed = rooted(3);
        due("crash(3), nothing committed", crashed.crash(3), 0);
        due("getRoot(0) after the crash", crashed.getRoot(0), 0);
        due("commit(), all new", rooted(3).commit(), 3);
    }

    private static void rightAfterAbortOrCrash() {
        PersistentGraph aborted = changedPair();
        aborted.abort();
        duePair(aborted);
        PersistentGraph stopped = changedPair();
        stopped.crash(3);
        duePair(stopped);
        PersistentGraph valid = changedPair();
        valid.crash(4);
        dueChangedPair(valid);
    }

    private static void noHandlesAfterAbortOrCrash() {
        PersistentGraph aborted = changedPair();
        aborted.make(3, 40);
        aborted.abort();
        dueNoHandles(aborted);
        PersistentGraph stopped = changedPair();
        stopped.make(3, 40);
        stopped.crash(3);
        dueNoHandles(stopped);
        PersistentGraph valid = changedPair();
        valid.make(3, 40);
        valid.crash(4);
        dueNoHandles(valid);
    }

    private static void commitLeavesAll() {
        PersistentGraph g = changedPair();
        g.make(3, 40);
        g.link(3, 0, 3);
        g.commit();
        due("value(0)", g.value(0), 11);
        due("value(1)", g.value(1), 21);
        due("value(2)", g.value(2), 30);
        due("value(3), that the root doesn't come to", g.value(3), 40);
        due("follow(3, 3, 0)", g.follow(3, 3, 0), 1);
        due("value(3)", g.value(3), 40);
        dueChangedPair(g);
        PersistentGraph left = pair();
        left.setRoot(3);
        left.setValue(0, 11);
        left.commit();
        due("value(0), that has left the committed state", left.value(0), 11);
        due("follow(0, 0, 0)", left.follow(0, 0, 0), 1);
        due("same(0, 1)", left.same(0, 1), true);
        due("getRoot(2)", left.getRoot(2), 0);
    }

    private static void othersWorkOnTheWorkingState() {
        PersistentGraph g = pair();
        g.setValue(0, 11);
        g.link(0, 0, 0);
        g.link(0, 1, 1);
        g.follow(2, 0, 0);
        g.setRoot(1);
        g.getRoot(3);
        g.drop(0);
        g.make(0, 30);
        g.reachable();
        g.value(1);
        g.same(1, 3);
        due("abort()", g.abort(), 2);
        duePair(g);
        PersistentGraph seen = changedPair();
        dueChangedPair(seen);
    }

    private static void inUseFromTheRoot() {
        due("make(0, 1), 12 from the root", rooted(12).make(0, 1), FULL);
        due("make(0, 1), 11 from the root", rooted(11).make(0, 1), 0);
        PersistentGraph g = rooted(12);
        g.setRoot(0);
        due("make(0, 1), the root led away", g.make(0, 1), 0);
    }

    private static void inUseFromAHandle() {
        for (int h = 0; h < 4; h++) {
            PersistentGraph g = rooted(12);
            g.getRoot(h);
            int other = (h + 1) % 4;
            g.setRoot(other);
            due("make, 12 from handle " + h, g.make(other, 1), FULL);
            due("drop", g.drop(h), 1);
            due("make, after the drop of handle " + h, g.make(other, 1), other);
        }
    }

    private static void inUseAsCommitted() {
        PersistentGraph g = rooted(12);
        g.commit();
        g.setRoot(0);
        due("reachable()", g.reachable(), 0);
        due("make(0, 1), 12 in the committed state alone", g.make(0, 1), FULL);
        due("abort()", g.abort(), 12);
        g.setRoot(0);
        due("commit()", g.commit(), 0);
        due("make(0, 1), none in the committed state", g.make(0, 1), 0);
        PersistentGraph crashed = rooted(12);
        crashed.crash(13);
        crashed.setRoot(0);
        due("make(0, 1), 12 committed by a crash", crashed.make(0, 1), FULL);
        due("crash(1)", crashed.crash(1), 1);
        due("make(0, 1), none left by a crash", crashed.make(0, 1), 0);
    }

    private static void inUseCountsOnce() {
        PersistentGraph g = rooted(11);
        g.commit();
        g.getRoot(1);
        g.getRoot(2);
        g.follow(3, 1, 0);
        due("make(0, 1), 11 from the root, handles and committed", g.make(0, 1), 0);
        due("make(0, 1), 12", g.make(0, 1), FULL);
        PersistentGraph three = rooted(4);
        three.commit();
        three.setRoot(0);
        for (int n = 0; n < 4; n++) {
            three.make(0, n);
            three.link(0, 0, 1);
            three.link(0, 1, 0);
            three.follow(1, 0, 1);
        }
        three.setRoot(1);
        three.drop(1);
        for (int h = 0; h < 4; h++) {
            due("make(" + h + ", 1), 4 committed, 4 from the root", three.make(h, 1), h);
        }
        due("make(3, 1), and 4 from handles", three.make(3, 1), FULL);
    }

    private static void notInUse() {
        PersistentGraph g = held(12);
        due("make(0, 1), all in use", g.make(0, 1), FULL);
        g.follow(2, 1, 0);
        g.link(2, 1, 1);
        g.drop(2);
        due("make(0, 1), a ring in use", g.make(0, 1), FULL);
        g.drop(1);
        due("all 12 can be made again", makesUntilFull(g), 12);
        PersistentGraph aborted = rooted(12);
        aborted.abort();
        due("all 12 can be made after the abort", makesUntilFull(aborted), 12);
        PersistentGraph stopped = rooted(12);
        stopped.crash(12);
        due("all 12 can be made after the crash", makesUntilFull(stopped), 12);
        PersistentGraph one = held(12);
        one.follow(1, 1, 0);
        due("make(0, 1), one lost", one.make(0, 1), 0);
        due("make(2, 1)", one.make(2, 1), FULL);
    }

    private static void inUseByWorkingLinks() {
        PersistentGraph g = new PersistentGraph();
        g.make(0, 1);
        g.setRoot(0);
        g.commit();
        for (int n = 0; n < 11; n++) {
            g.make(2, n);
            g.link(2, 0, 1);
            g.link(2, 1, 2);
            g.follow(1, 2, 1);
        }
        g.link(0, 0, 1);
        g.drop(1);
        g.drop(2);
        due("make(1, 1), 11 behind the committed object", g.make(1, 1), FULL);
        g.setRoot(1);
        g.drop(0);
        due("what is behind an object that is not come to isn't in use", makesUntilFull(g), 11);
        due("abort()", g.abort(), 1);
        g.getRoot(0);
        due("value(0)", g.value(0), 1);
        due("follow(1, 0, 0)", g.follow(1, 0, 0), 0);
    }

    private static void atMostTwelve() {
        PersistentGraph g = new PersistentGraph();
        due("objects that can be made", makesUntilFull(g), 12);
        g.setRoot(1);
        due("reachable()", g.reachable(), 12);
        due("make(0, 1)", g.make(0, 1), FULL);
        for (int committed = 0; committed <= 12; committed++) {
            PersistentGraph mixed = rooted(committed);
            mixed.commit();
            mixed.setRoot(0);
            due("beside " + committed + " committed", makesUntilFull(mixed), 12 - committed);
        }
        for (int fromRoot = 0; fromRoot <= 12; fromRoot++) {
            due("beside " + fromRoot + " from the root", makesUntilFull(rooted(fromRoot)), 12 - fromRoot);
        }
    }

    private static void changedFromTheRoot() {
        PersistentGraph g = pair();
        g.make(2, 30);
        g.link(2, 0, 0);
        due("commit(), a new object by a handle alone", g.commit(), 0);
        g.link(0, 0, 3);
        g.setValue(1, 21);
        due("commit(), a changed object that is linked no more", g.commit(), 1);
        PersistentGraph led = pair();
        led.setValue(0, 11);
        led.setRoot(1);
        due("commit(), a changed object that the root led to", led.commit(), 0);
        PersistentGraph empty = pair();
        empty.setValue(0, 11);
        empty.setValue(1, 21);
        empty.setRoot(3);
        due("commit(), the root to nothing", empty.commit(), 0);
    }

    private static void changedAsNew() {
        for (int length = 0; length <= 12; length++) {
            due("commit(), " + length + " new", rooted(length).commit(), length);
        }
        PersistentGraph g = pair();
        g.make(2, 20);
        g.link(0, 1, 2);
        due("commit(), a new object with the value and links of another", g.commit(), 2);
        PersistentGraph left = pair();
        left.setRoot(3);
        left.commit();
        left.setRoot(0);
        due("commit(), objects that had left the committed state", left.commit(), 2);
        PersistentGraph zero = new PersistentGraph();
        zero.make(0, 0);
        zero.setRoot(0);
        due("commit(), a new object with value 0 and no links", zero.commit(), 1);
    }

    private static void changedValue() {
        for (int from : VALUES) {
            for (int to : VALUES) {
                PersistentGraph g = pair();
                g.setValue(1, from);
                g.commit();
                g.setValue(1, to);
                due("commit(), from " + from + " to " + to, g.commit(), from == to ? 0 : 1);
            }
        }
    }

    private static void changedLinks() {
        for (int which = 0; which < 2; which++) {
            PersistentGraph g = pair();
            g.link(1, which, 0);
            due("commit(), link " + which + " from nothing", g.commit(), 1);
            g.link(1, which, 1);
            due("commit(), link " + which + " to another", g.commit(), 1);
            g.link(1, which, 3);
            due("commit(), link " + which + " to nothing", g.commit(), 1);
        }
        PersistentGraph g = pair();
        g.link(0, 0, 3);
        g.link(0, 1, 1);
        due("commit(), the links changed about", g.commit(), 1);
        g.link(0, 0, 0);
        g.link(0, 1, 3);
        g.setValue(0, 11);
        due("commit(), both links and the value of one object", g.commit(), 1);
    }

    private static void setBack() {
        PersistentGraph g = pair();
        g.setValue(0, MAX);
        g.setValue(0, 10);
        due("commit(), a value set back", g.commit(), 0);
        g.setValue(0, 10);
        due("commit(), a value set to what it is", g.commit(), 0);
        g.link(0, 0, 3);
        g.link(0, 0, 1);
        due("commit(), link 0 set back", g.commit(), 0);
        g.link(1, 1, 0);
        g.link(1, 1, 3);
        due("commit(), link 1 set back", g.commit(), 0);
        g.setRoot(3);
        g.setRoot(0);
        due("commit(), the root set back", g.commit(), 0);
        g.setValue(0, 11);
        g.commit();
        g.setValue(0, 10);
        due("commit(), set back behind a commit", g.commit(), 1);
        g.setValue(0, 11);
        g.setValue(0, 10);
        due("crash(1), a value set back", g.crash(1), 1);
    }

    // Promises 1 to 4

    private static void newObject() {
        dueNoHandles(new PersistentGraph());
        due("reachable()", new PersistentGraph().reachable(), 0);
        due("commit()", new PersistentGraph().commit(), 0);
        due("abort()", new PersistentGraph().abort(), 0);
        PersistentGraph g = new PersistentGraph();
        for (int h = 0; h < 4; h++) {
            due("value(" + h + ")", g.value(h), 0);
            due("same(" + h + ", 0)", g.same(h, 0), false);
            due("setValue(" + h + ", 1)", g.setValue(h, 1), NONE);
            due("getRoot(" + h + ")", g.getRoot(h), 0);
        }
        due("objects that can be made", makesUntilFull(new PersistentGraph()), 12);
    }

    private static void makeNewObject() {
        PersistentGraph g = new PersistentGraph();
        for (int n = 0; n < 30; n++) {
            g.make(0, n);
            due("value(0)", g.value(0), n);
            due("follow(1, 0, 0)", g.follow(1, 0, 0), 0);
            due("follow(1, 0, 1)", g.follow(1, 0, 1), 0);
            g.link(0, n & 1, 0);
        }
        PersistentGraph beside = pair();
        beside.make(2, 20);
        due("same(2, 1), alike", beside.same(2, 1), false);
        due("reachable()", beside.reachable(), 2);
        beside.make(0, 30);
        due("value(0)", beside.value(0), 30);
        duePair(beside);
        PersistentGraph over = rooted(2);
        over.getRoot(0);
        over.make(0, 30);
        over.getRoot(1);
        due("same(0, 1), what the handle led to stays", over.same(0, 1), false);
        due("value(1)", over.value(1), 1);
        due("reachable()", over.reachable(), 2);
    }

    private static void makeBad() {
        for (int h : NO_HANDLES) {
            refused("make(" + h + ", 5)", BoundariesTest::changedPair, g -> g.make(h, 5), BAD);
        }
    }

    private static void makeFull() {
        due("make(2, 1) beside 10", held(10).make(2, 1), 2);
        due("make(2, 1) beside 11", held(11).make(2, 1), 2);
        for (int h = 0; h < 4; h++) {
            int handle = h;
            refused("make(" + h + ", 1) beside 12", () -> held(12), g -> g.make(handle, 1), FULL);
            refused("make(" + h + ", 1) beside 12 from the root", () -> rooted(12), g -> g.make(handle, 1), FULL);
            refused("make(" + h + ", 1) beside 12 committed", BoundariesTest::twelveCommitted,
                g -> g.make(handle, 1), FULL);
        }
    }

    private static PersistentGraph twelveCommitted() {
        PersistentGraph g = rooted(12);
        g.commit();
        g.setRoot(0);
        return g;
    }

    private static void makeCountsBefore() {
        PersistentGraph g = held(11);
        due("make(2, 50), the twelfth", g.make(2, 50), 2);
        due("make(2, 60), in the stead of the twelfth", g.make(2, 60), FULL);
        due("value(2)", g.value(2), 50);
        due("make(1, 60), in the chain's stead", g.make(1, 60), FULL);
        due("drop(2)", g.drop(2), 1);
        due("make(2, 60), after the drop", g.make(2, 60), 2);
        due("value(2)", g.value(2), 60);
        PersistentGraph eleven = held(11);
        due("make(1, 50), eleven before", eleven.make(1, 50), 1);
        due("value(1)", eleven.value(1), 50);
        due("eleven are free then", makesUntilFull(eleven), 11);
    }

    private static void makeOrder() {
        for (int h : NO_HANDLES) {
            due("make(" + h + ", 1) with 12 in use", held(12).make(h, 1), BAD);
        }
    }

    private static void makeAnswersH() {
        for (int h = 0; h < 4; h++) {
            for (int value : VALUES) {
                due("make(" + h + ", " + value + ")", pair().make(h, value), h);
            }
        }
    }

    private static void getRootLeads() {
        for (int h = 0; h < 4; h++) {
            PersistentGraph g = rooted(2);
            g.getRoot(h);
            due("value(" + h + ")", g.value(h), 1);
            due("setRoot to nothing", g.setRoot((h + 1) % 4), 0);
            g.getRoot(h);
            due("drop(" + h + "), the root led to nothing", g.drop(h), 0);
        }
        PersistentGraph changed = changedPair();
        changed.getRoot(3);
        due("same(3, 2), the working root", changed.same(3, 2), true);
        due("reachable() stays", changed.reachable(), 3);
    }

    private static void getRootBad() {
        for (int h : NO_HANDLES) {
            refused("getRoot(" + h + ")", BoundariesTest::changedPair, g -> g.getRoot(h), BAD);
            due("getRoot(" + h + "), no root", new PersistentGraph().getRoot(h), BAD);
        }
    }

    private static void getRootAnswers() {
        for (int h = 0; h < 4; h++) {
            due("getRoot(" + h + "), an object", pair().getRoot(h), 1);
            due("getRoot(" + h + "), the last object made", rooted(12).getRoot(h), 1);
            due("getRoot(" + h + "), nothing", new PersistentGraph().getRoot(h), 0);
            due("getRoot(" + h + "), nothing in an object's stead", held(2).getRoot(h), 0);
        }
    }

    private static void setRootLeads() {
        PersistentGraph g = fourMade();
        for (int h = 0; h < 4; h++) {
            g.setRoot(h);
            due("reachable()", g.reachable(), 1);
            for (int other = 0; other < 4; other++) {
                due("value(" + other + ") stays", g.value(other), 100 + other);
            }
            g.getRoot(h);
            due("value(" + h + ") of the root", g.value(h), 100 + h);
        }
        PersistentGraph none = pair();
        none.setRoot(2);
        due("reachable(), nothing", none.reachable(), 0);
        due("getRoot(3), nothing", none.getRoot(3), 0);
        due("value(0) stays", none.value(0), 10);
    }

    private static void setRootBad() {
        for (int h : NO_HANDLES) {
            refused("setRoot(" + h + ")", BoundariesTest::changedPair, g -> g.setRoot(h), BAD);
            due("setRoot(" + h + "), no handle leads to an object", new PersistentGraph().setRoot(h), BAD);
        }
    }

    private static void setRootAnswers() {
        PersistentGraph g = pair();
        due("setRoot(0)", g.setRoot(0), 1);
        due("setRoot(1)", g.setRoot(1), 1);
        due("setRoot(2)", g.setRoot(2), 0);
        due("setRoot(3), nothing again", g.setRoot(3), 0);
        due("setRoot(1)", g.setRoot(1), 1);
    }

    // Promises 5 to 10

    private static void followLeads() {
        for (int h = 0; h < 4; h++) {
            PersistentGraph g = changedPair();
            due("follow(" + h + ", 2, 0), nothing", g.follow(h, 2, 0), 0);
            due("value(" + h + ")", g.value(h), 0);
        }
        for (int h = 0; h < 4; h++) {
            PersistentGraph g = changedPair();
            due("follow(" + h + ", 2, 1)", g.follow(h, 2, 1), 1);
            due("value(" + h + ")", g.value(h), 11);
        }
        PersistentGraph self = held(1);
        due("follow(1, 1, 1), to itself", self.follow(1, 1, 1), 1);
        due("value(1)", self.value(1), 0);
        due("follow(1, 1, 0), to nothing", self.follow(1, 1, 0), 0);
        due("drop(1)", self.drop(1), 0);
        PersistentGraph far = held(12);
        for (int value = 10; value >= 0; value--) {
            due("follow(1, 1, 0)", far.follow(1, 1, 0), 1);
            due("value(1)", far.value(1), value);
        }
        due("follow(1, 1, 0), at the end", far.follow(1, 1, 0), 0);
        due("follow(1, 1, 0), behind the end", far.follow(1, 1, 0), NONE);
    }

    private static void followBad() {
        for (int bad : NO_HANDLES) {
            refused("follow(" + bad + ", 0, 0)", BoundariesTest::changedPair, g -> g.follow(bad, 0, 0), BAD);
            refused("follow(0, " + bad + ", 0)", BoundariesTest::changedPair, g -> g.follow(0, bad, 0), BAD);
            due("follow(" + bad + ", 3, 0), g leads to nothing", changedPair().follow(bad, 3, 0), BAD);
            due("follow(" + bad + ", itself, itself)", changedPair().follow(bad, bad, bad), BAD);
        }
        for (int bad : NO_LINKS) {
            refused("follow(0, 2, " + bad + ")", BoundariesTest::changedPair, g -> g.follow(0, 2, bad), BAD);
            due("follow(0, 3, " + bad + "), g leads to nothing", changedPair().follow(0, 3, bad), BAD);
        }
    }

    private static void followNone() {
        for (int h = 0; h < 4; h++) {
            for (int which = 0; which < 2; which++) {
                int handle = h;
                int link = which;
                refused("follow(" + h + ", 3, " + which + ")", BoundariesTest::changedPair,
                    g -> g.follow(handle, 3, link), NONE);
                due("follow, all handles lead to nothing", rooted(3).follow(2, h, which), NONE);
            }
        }
    }

    private static void followAnswers() {
        PersistentGraph g = pair();
        due("follow(3, 0, 0), an object", g.follow(3, 0, 0), 1);
        due("follow(3, 0, 1), nothing", g.follow(3, 0, 1), 0);
        due("follow(0, 0, 1), nothing for g itself", g.follow(0, 0, 1), 0);
        due("follow(0, 1, 0), nothing", g.follow(0, 1, 0), 0);
        due("follow(3, 1, 1), nothing", g.follow(3, 1, 1), 0);
    }

    private static void linkLeads() {
        PersistentGraph g = pair();
        for (int which = 0; which < 2; which++) {
            for (int to = 0; to < 2; to++) {
                g.link(1, which, to);
                due("follow(2, 1, " + which + ")", g.follow(2, 1, which), 1);
                due("same(2, " + to + ")", g.same(2, to), true);
            }
            g.link(1, which, 3);
            due("follow(2, 1, " + which + "), nothing", g.follow(2, 1, which), 0);
        }
        due("value(0) stays", g.value(0), 10);
        due("value(1) stays", g.value(1), 20);
        duePair(g);
        PersistentGraph both = pair();
        both.link(0, 0, 0);
        both.link(0, 1, 1);
        both.follow(2, 0, 0);
        both.follow(3, 0, 1);
        due("same(2, 0)", both.same(2, 0), true);
        due("same(3, 1)", both.same(3, 1), true);
    }

    private static void linkBad() {
        for (int bad : NO_HANDLES) {
            refused("link(" + bad + ", 0, 0)", BoundariesTest::changedPair, g -> g.link(bad, 0, 0), BAD);
            refused("link(0, 0, " + bad + ")", BoundariesTest::changedPair, g -> g.link(0, 0, bad), BAD);
            due("link(3, 0, " + bad + "), h leads to nothing", changedPair().link(3, 0, bad), BAD);
            due("link(" + bad + ", itself, itself)", changedPair().link(bad, bad, bad), BAD);
        }
        for (int bad : NO_LINKS) {
            refused("link(0, " + bad + ", 2)", BoundariesTest::changedPair, g -> g.link(0, bad, 2), BAD);
            due("link(3, " + bad + ", 2), h leads to nothing", changedPair().link(3, bad, 2), BAD);
        }
    }

    private static void linkNone() {
        for (int to = 0; to < 4; to++) {
            for (int which = 0; which < 2; which++) {
                int handle = to;
                int link = which;
                refused("link(3, " + which + ", " + to + ")", BoundariesTest::changedPair,
                    g -> g.link(3, link, handle), NONE);
                due("link, all handles lead to nothing", rooted(3).link(to, which, 2), NONE);
            }
        }
    }

    private static void linkAnswers() {
        PersistentGraph g = pair();
        due("link(0, 1, 1), an object", g.link(0, 1, 1), 1);
        due("link(0, 1, 0), itself", g.link(0, 1, 0), 1);
        due("link(0, 1, 3), nothing", g.link(0, 1, 3), 0);
        due("link(0, 1, 2), nothing again", g.link(0, 1, 2), 0);
        due("link(1, 0, 0), an object", g.link(1, 0, 0), 1);
    }

    private static void dropLeads() {
        for (int h = 0; h < 4; h++) {
            PersistentGraph g = fourMade();
            g.drop(h);
            for (int other = 0; other < 4; other++) {
                due("value(" + other + ") after drop(" + h + ")", g.value(other), other == h ? 0 : 100 + other);
            }
            due("setValue(" + h + ", 1)", g.setValue(h, 1), NONE);
        }
        PersistentGraph rootStays = pair();
        rootStays.drop(0);
        rootStays.drop(1);
        duePair(rootStays);
    }

    private static void dropBad() {
        for (int h : NO_HANDLES) {
            refused("drop(" + h + ")", BoundariesTest::changedPair, g -> g.drop(h), BAD);
            due("drop(" + h + "), no handle leads to an object", new PersistentGraph().drop(h), BAD);
        }
    }

    private static void dropAnswers() {
        for (int h = 0; h < 4; h++) {
            PersistentGraph g = pair();
            due("drop(" + h + ")", g.drop(h), h < 2 ? 1 : 0);
            due("drop(" + h + ") again", g.drop(h), 0);
        }
    }

    private static void valueOutside() {
        for (int h : NO_HANDLES) {
            due("value(" + h + "), no object", new PersistentGraph().value(h), 0);
            refused("value(" + h + ")", BoundariesTest::fourMade, g -> g.value(h), 0);
        }
    }

    private static void valueOfNothing() {
        for (int h = 0; h < 4; h++) {
            int handle = h;
            PersistentGraph g = new PersistentGraph();
            due("value(" + h + "), new", g.value(h), 0);
            g.make(h, 5);
            g.drop(h);
            due("value(" + h + "), dropped", g.value(h), 0);
            refused("value(" + h + "), all handles lead to nothing", () -> rooted(3), x -> x.value(handle), 0);
        }
    }

    private static void setValueBad() {
        for (int h : NO_HANDLES) {
            refused("setValue(" + h + ", 5)", BoundariesTest::changedPair, g -> g.setValue(h, 5), BAD);
            due("setValue(" + h + ", 5), no object", new PersistentGraph().setValue(h, 5), BAD);
        }
    }

    private static void setValueNone() {
        for (int h = 0; h < 4; h++) {
            int handle = h;
            refused("setValue(" + h + ", 5)", () -> rooted(3), g -> g.setValue(handle, 5), NONE);
        }
        refused("setValue(3, 5)", BoundariesTest::changedPair, g -> g.setValue(3, 5), NONE);
    }

    private static void setValueAnswers() {
        for (int value : VALUES) {
            PersistentGraph g = pair();
            due("setValue(1, " + value + ")", g.setValue(1, value), 1);
            due("setValue(1, " + value + ") again", g.setValue(1, value), 1);
            due("value(1)", g.value(1), value);
            due("value(0) stays", g.value(0), 10);
        }
    }

    private static void sameObject() {
        PersistentGraph g = new PersistentGraph();
        for (int h = 0; h < 4; h++) {
            g.make(h, 5);
        }
        for (int a = 0; a < 4; a++) {
            for (int b = 0; b < 4; b++) {
                due("same(" + a + ", " + b + "), alike", g.same(a, b), a == b);
            }
        }
        g.setRoot(0);
        for (int h = 0; h < 4; h++) {
            g.getRoot(h);
        }
        for (int a = 0; a < 4; a++) {
            for (int b = 0; b < 4; b++) {
                due("same(" + a + ", " + b + "), one object", g.same(a, b), true);
            }
        }
    }

    private static void sameOutside() {
        for (int bad : NO_HANDLES) {
            for (int h = 0; h < 4; h++) {
                due("same(" + bad + ", " + h + ")", changedPair().same(bad, h), false);
                due("same(" + h + ", " + bad + ")", changedPair().same(h, bad), false);
            }
            due("same(" + bad + ", itself)", changedPair().same(bad, bad), false);
            refused("same(" + bad + ", 3)", BoundariesTest::fourMade, g -> g.same(bad, 3) ? 1 : 0, 0);
            due("same(3, " + bad + ")", fourMade().same(3, bad), false);
        }
    }

    private static void sameNothing() {
        for (int a = 0; a < 4; a++) {
            for (int b = 0; b < 4; b++) {
                due("same(" + a + ", " + b + "), new", new PersistentGraph().same(a, b), false);
            }
        }
        PersistentGraph g = pair();
        due("same(0, 3)", g.same(0, 3), false);
        due("same(3, 0)", g.same(3, 0), false);
        due("same(3, 3)", g.same(3, 3), false);
        due("same(2, 3)", g.same(2, 3), false);
    }

    // Promises 11 to 14

    private static void commitBecomes() {
        PersistentGraph g = changedPair();
        g.make(3, 40);
        g.commit();
        due("abort()", g.abort(), 3);
        dueChangedPair(g);
        PersistentGraph empty = pair();
        empty.setRoot(3);
        empty.commit();
        due("abort(), the root to nothing", empty.abort(), 0);
        due("getRoot(0)", empty.getRoot(0), 0);
        PersistentGraph full = rooted(12);
        full.commit();
        due("abort(), all twelve", full.abort(), 12);
        full.getRoot(0);
        for (int value = 11; value >= 0; value--) {
            due("value(0)", full.value(0), value);
            due("follow(1, 0, 1), to itself", full.follow(1, 0, 1), 1);
            due("same(0, 1)", full.same(0, 1), true);
            due("follow(0, 0, 0), to the next", full.follow(0, 0, 0), value == 0 ? 0 : 1);
        }
        PersistentGraph moved = pair();
        moved.setRoot(1);
        due("commit(), the root alone moved", moved.commit(), 0);
        due("abort()", moved.abort(), 1);
        moved.getRoot(0);
        due("value(0)", moved.value(0), 20);
    }

    private static void commitAnswers() {
        for (int changed = 0; changed <= 12; changed++) {
            PersistentGraph g = rooted(12);
            g.commit();
            g.getRoot(0);
            for (int n = 0; n < changed; n++) {
                g.setValue(0, 100);
                g.follow(0, 0, 0);
            }
            due("commit(), " + changed + " of 12 changed", g.commit(), changed);
            due("commit() again", g.commit(), 0);
        }
        due("commit(), all changed", changedPair().commit(), 3);
        PersistentGraph aborted = changedPair();
        aborted.abort();
        due("commit() after the abort", aborted.commit(), 0);
        PersistentGraph crashed = changedPair();
        crashed.crash(4);
        due("commit() after the crash", crashed.commit(), 0);
    }

    private static void abortBecomes() {
        PersistentGraph g = changedPair();
        g.abort();
        duePair(g);
        g.abort();
        duePair(g);
        PersistentGraph lost = pair();
        lost.link(0, 0, 3);
        lost.setRoot(3);
        lost.drop(0);
        lost.drop(1);
        makesUntilFull(lost);
        lost.abort();
        due("what is free after the abort", makesUntilFull(lost), 10);
        duePair(lost);
        PersistentGraph back = pair();
        back.setRoot(3);
        back.commit();
        back.setRoot(0);
        back.abort();
        due("getRoot(0), the committed root led to nothing", back.getRoot(0), 0);
        due("reachable()", back.reachable(), 0);
    }

    private static void abortAnswers() {
        for (int length = 0; length <= 12; length++) {
            PersistentGraph g = rooted(length);
            g.commit();
            g.setRoot(0);
            due("abort(), " + length + " committed", g.abort(), length);
            due("abort() again", g.abort(), length);
        }
        due("abort(), 3 working and 2 committed", changedPair().abort(), 2);
        due("abort(), 12 working and none committed", rooted(12).abort(), 0);
    }

    private static void crashBelowZero() {
        for (int writes : new int[] {-1, -2, -13, -256, MIN, MIN + 1}) {
            due("crash(" + writes + "), none changed", new PersistentGraph().crash(writes), 0);
            PersistentGraph g = changedPair();
            due("crash(" + writes + ")", g.crash(writes), 0);
            duePair(g);
        }
    }

    private static void crashInTheLog() {
        for (int changed = 0; changed <= 12; changed++) {
            for (int writes = 0; writes <= changed; writes++) {
                PersistentGraph g = rooted(changed);
                due("crash(" + writes + "), " + changed + " changed", g.crash(writes), 0);
                due("reachable()", g.reachable(), 0);
            }
        }
        PersistentGraph g = changedPair();
        due("crash(3), 3 changed", g.crash(3), 0);
        duePair(g);
    }

    private static void crashAtTheMark() {
        for (int changed = 0; changed <= 12; changed++) {
            PersistentGraph g = rooted(changed);
            due("crash(" + (changed + 1) + "), " + changed + " changed", g.crash(changed + 1), 1);
            due("reachable()", g.reachable(), changed);
            due("abort()", g.abort(), changed);
        }
        PersistentGraph one = rooted(12);
        one.commit();
        one.getRoot(0);
        one.setValue(0, 100);
        due("crash(2), 1 of 12 changed", one.crash(2), 1);
        PersistentGraph g = changedPair();
        due("crash(4), 3 changed", g.crash(4), 1);
        dueChangedPair(g);
    }

    private static void crashAfterTheMark() {
        for (int writes : new int[] {5, 6, 7, 8, 13, 14, 100, 256, 65536, MAX - 1, MAX}) {
            PersistentGraph g = changedPair();
            due("crash(" + writes + "), 3 changed", g.crash(writes), 1);
            due("abort()", g.abort(), 3);
            dueChangedPair(g);
        }
        due("crash(most), 12 changed", rooted(12).crash(MAX), 1);
    }

    private static void crashCommits() {
        PersistentGraph g = changedPair();
        g.make(3, 40);
        g.link(3, 0, 0);
        due("crash(4), beside a handle's object", g.crash(4), 1);
        due("abort()", g.abort(), 3);
        due("what is free then", makesUntilFull(g), 9);
        PersistentGraph empty = pair();
        empty.setRoot(3);
        due("crash(1), the root to nothing", empty.crash(1), 1);
        due("abort()", empty.abort(), 0);
        due("getRoot(0)", empty.getRoot(0), 0);
    }

    private static void crashStays() {
        PersistentGraph g = changedPair();
        for (int writes = 0; writes <= 3; writes++) {
            due("crash(" + writes + ")", changedPair().crash(writes), 0);
        }
        g.crash(3);
        due("abort()", g.abort(), 2);
        duePair(g);
        PersistentGraph empty = pair();
        empty.setRoot(3);
        due("crash(0), the root to nothing", empty.crash(0), 0);
        duePair(empty);
        PersistentGraph none = rooted(12);
        due("crash(12), nothing committed", none.crash(12), 0);
        due("abort()", none.abort(), 0);
    }

    private static void crashRestores() {
        PersistentGraph stopped = changedPair();
        stopped.crash(0);
        due("commit(), after a crash too early", stopped.commit(), 0);
        due("reachable()", stopped.reachable(), 2);
        dueNoHandles(stopped);
        PersistentGraph valid = changedPair();
        valid.make(3, 40);
        valid.crash(4);
        due("commit(), after a valid crash", valid.commit(), 0);
        due("reachable()", valid.reachable(), 3);
        dueNoHandles(valid);
        due("what is free then", makesUntilFull(valid), 9);
    }

    private static void crashAnswers() {
        PersistentGraph g = pair();
        due("crash(0), none changed", g.crash(0), 0);
        due("crash(1), none changed", g.crash(1), 1);
        g.getRoot(0);
        g.setValue(0, 11);
        due("crash(1), one changed", g.crash(1), 0);
        due("crash(2), none changed then", g.crash(2), 1);
        g.getRoot(0);
        g.setValue(0, 11);
        due("crash(2), one changed", g.crash(2), 1);
        due("crash(0), none changed then", g.crash(0), 0);
        due("crash(13), twelve changed", rooted(12).crash(13), 1);
    }

    private static void crashWithNoneChanged() {
        due("crash(0), new", new PersistentGraph().crash(0), 0);
        due("crash(1), new", new PersistentGraph().crash(1), 1);
        due("crash(0), all committed", pair().crash(0), 0);
        due("crash(1), all committed", pair().crash(1), 1);
        PersistentGraph moved = pair();
        moved.setRoot(1);
        due("crash(0), the root alone moved", moved.crash(0), 0);
        duePair(moved);
        PersistentGraph valid = pair();
        valid.setRoot(1);
        due("crash(1), the root alone moved", valid.crash(1), 1);
        valid.getRoot(0);
        due("value(0)", valid.value(0), 20);
        PersistentGraph aside = pair();
        aside.make(2, 30);
        due("crash(1), a new object by a handle alone", aside.crash(1), 1);
        duePair(aside);
    }

    private static void reachableCounts() {
        for (int length = 0; length <= 12; length++) {
            due("reachable(), a chain of " + length, rooted(length).reachable(), length);
        }
        PersistentGraph ring = held(12);
        ring.setRoot(1);
        ring.getRoot(2);
        for (int n = 0; n < 11; n++) {
            ring.follow(2, 2, 0);
        }
        ring.link(2, 0, 1);
        due("reachable(), a ring of 12", ring.reachable(), 12);
        ring.setRoot(2);
        due("reachable(), a ring of 12 from its end", ring.reachable(), 12);
        PersistentGraph twice = pair();
        twice.link(0, 1, 1);
        due("reachable(), two links to one object", twice.reachable(), 2);
        PersistentGraph forward = new PersistentGraph();
        forward.make(0, 0);
        forward.setRoot(0);
        for (int made = 1; made < 12; made++) {
            forward.make(1, made);
            forward.link(0, 1, 1);
            forward.follow(0, 0, 1);
            due("reachable(), a chain by link 1", forward.reachable(), made + 1);
        }
    }

    private static void reachableFromWorkingRootAlone() {
        due("reachable(), 12 by a handle", held(12).reachable(), 0);
        due("reachable(), 2 in the committed state", changedPair().reachable(), 3);
        PersistentGraph g = pair();
        g.make(2, 30);
        g.link(2, 0, 0);
        due("reachable(), one that leads to the root's", g.reachable(), 2);
        g.link(0, 0, 3);
        due("reachable(), the link to nothing", g.reachable(), 1);
        g.setRoot(3);
        due("reachable(), the root to nothing", g.reachable(), 0);
        g.abort();
        due("reachable(), after the abort", g.reachable(), 2);
    }
}
