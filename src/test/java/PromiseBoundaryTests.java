import java.util.ArrayList;
import java.util.List;
import java.util.function.Supplier;

/** Promises 1 to 13, sentence by sentence: a test of its own for each sentence that names a boundary case. */
public final class PromiseBoundaryTests extends LockTest {
    private static final Twins twins = new Twins(check);

    public static void main(String[] args) {
        newObjectIsIdleAndEmpty();
        newObjectSharesNothing();
        beginTheLeastIdle();
        beginWhenNoneIsIdle();
        beginAfterEnd();
        lockNoSuchTransaction();
        lockNoSuchResource();
        lockNoSuchMode();
        lockRowNeitherInSNorX();
        lockEveryModeButOnRows();
        lockTwoWrongArguments();
        lockByOneThatIsNotActive();
        lockWithoutTheParent();
        lockWithTooWeakAParent();
        lockAnswersAll();
        unlockNoSuchTransactionOrResource();
        unlockByOneThatIsNotActive();
        unlockWhatIsNotHeld();
        unlockAboveAChild();
        unlockGivesUpAndServes();
        escalateNoSuchTransaction();
        escalateNeitherTableNorPage();
        escalateByOneThatIsNotActive();
        escalateNothingBelow();
        escalateAgainstAnother();
        escalateBesideAnother();
        escalateToXOrS();
        escalateFewestAndMost();
        escalateChangesNothingElse();
        escalatePastTheQueue();
        endNoSuchTransaction();
        endOfAnIdleOne();
        endWithNothing();
        endWithEverything();
        endLeavesTheQueue();
        endServesWhatItWaitedFor();
        endCountsThoseThatBecameActive();
        heldNoSuch();
        heldFirstAndLast();
        stateOfEachKind();
        wantedOnlyWhileWaiting();
        queuePlaces();
        waitsForSums();
        accessOfRowsAlone();
        accessByEachLevel();
        locksFromNoneToAll();
        questionsChangeNothing();
        check.finish();
    }

    private static Supplier<TieredLocks> holding(int... pairs) {
        return () -> {
            TieredLocks x = begun(1);
            take(x, 0, pairs);
            return x;
        };
    }

    // ---- promise 1 ----

    /** "All transactions are idle, nothing is held." */
    private static void newObjectIsIdleAndEmpty() {
        TieredLocks x = new TieredLocks();
        for (int t = 0; t < 8; t++) {
            check.same("new: state of " + t, IDLE, x.state(t));
            check.same("new: locks of " + t, 0, x.locks(t));
            check.same("new: wanted by " + t, FREE, x.wanted(t));
            check.same("new: waitsFor of " + t, 0, x.waitsFor(t));
            for (int row = 10; row < 34; row++) {
                check.same("new: access of " + t, 0, x.access(t, row));
            }
        }
        for (int r = 0; r < 34; r++) {
            check.same("new: queue of " + r, NONE, x.queue(r, 0));
        }
    }

    private static void newObjectSharesNothing() {
        twins.unchanged("what another object does", 5, TieredLocks::new, x -> busy().locks(0));
        twins.unchanged("what another object does", 0, LockTest::busy, x -> begun(8).end(7));
        TieredLocks first = busy();
        check.same("a new object beside a used one", 0, new TieredLocks().begin());
        check.same("the used one beside a new one", 7, first.begin());
    }

    // ---- promise 2 ----

    /** "The least idle transaction becomes active: it" */
    private static void beginTheLeastIdle() {
        for (int t = 0; t < 8; t++) {
            int least = t;
            twins.changed("begin " + t, t, () -> begun(least), TieredLocks::begin, "state(" + t + ")=1");
        }
        for (int low = 0; low < 8; low++) {
            for (int high = low + 1; high < 8; high++) {
                TieredLocks x = begun(8);
                x.end(high);
                x.end(low);
                check.same("the least of two", low, x.begin());
                check.same("the greater of two", high, x.begin());
                check.same("and no other", NONE, x.begin());
            }
        }
        twins.changed("begin while others wait", 7, LockTest::busy, TieredLocks::begin, "state(7)=1");
    }

    /** "NONE when none is idle" */
    private static void beginWhenNoneIsIdle() {
        twins.unchanged("eight are active", NONE, () -> begun(8), TieredLocks::begin);
        twins.unchanged("some of eight wait", NONE, () -> {
            TieredLocks x = busy();
            x.begin();
            return x;
        }, TieredLocks::begin);
        twins.unchanged("all but one of eight wait", NONE, () -> {
            TieredLocks x = begun(8);
            take(x, 7, 0, X);
            for (int t = 0; t < 7; t++) {
                await(x, t, 0, S);
            }
            return x;
        }, TieredLocks::begin);
    }

    private static void beginAfterEnd() {
        TieredLocks x = busy();
        x.end(1);
        check.same("begun again", 1, x.begin());
        check.same("begun again: active", ACTIVE, x.state(1));
        check.same("begun again: holds nothing", 0, x.locks(1));
        check.same("begun again: wants nothing", FREE, x.wanted(1));
        sameQueue("begun again: stands nowhere", x, 10);
        check.raises("begun again: holds no parent", UNSUPPORTED, () -> x.lock(1, 1, IS));
    }

    // ---- promise 3 ----

    /** "IllegalArgumentException: there is no such transaction" */
    private static void lockNoSuchTransaction() {
        for (int t : WRONG_TRANSACTIONS) {
            twins.refused("lock by " + t, ARGUMENT, LockTest::busy, x -> x.lock(t, 0, IS));
            twins.refused("lock by " + t + " of a row", ARGUMENT, LockTest::busy, x -> x.lock(t, 10, S));
        }
    }

    /** "there is no such .. resource" */
    private static void lockNoSuchResource() {
        for (int r : WRONG_RESOURCES) {
            for (int mode = IS; mode <= X; mode++) {
                int asked = mode;
                check.raises("lock of " + r, ARGUMENT, () -> busy().lock(0, r, asked));
            }
            twins.refused("lock of " + r, ARGUMENT, LockTest::busy, x -> x.lock(0, r, S));
        }
    }

    /** "there is no such .. mode, the mode is NONE" */
    private static void lockNoSuchMode() {
        for (int mode : WRONG_MODES) {
            for (int r : new int[] {0, 1, 3, 4, 9, 10, 33}) {
                check.raises("lock of " + r + " in mode " + mode, ARGUMENT, () -> busy().lock(0, r, mode));
            }
            twins.refused("lock in mode " + mode, ARGUMENT, LockTest::busy, x -> x.lock(0, 0, mode));
            twins.refused("lock of a row in mode " + mode, ARGUMENT, LockTest::busy, x -> x.lock(0, 12, mode));
        }
    }

    /** "or r is a row and the mode neither S nor X" */
    private static void lockRowNeitherInSNorX() {
        for (int row = 10; row < 34; row++) {
            int r = row;
            Supplier<TieredLocks> scene = () -> {
                TieredLocks x = begun(1);
                takeAllAbove(x, 0, r, IX);
                return x;
            };
            for (int mode : new int[] {IS, IX, SIX}) {
                twins.refused("row " + r + " in mode " + mode, ARGUMENT, scene, x -> x.lock(0, r, mode));
            }
            twins.changed("row " + r + " in S", GRANTED, scene, x -> x.lock(0, r, S),
                onRows(0, r, r, 1, "held(0, " + r + ")=3", "locks(0)=4"));
            twins.changed("row " + r + " in X", GRANTED, scene, x -> x.lock(0, r, X),
                onRows(0, r, r, 2, "held(0, " + r + ")=5", "locks(0)=4"));
        }
        // A mode that no row can have is refused even where X far above would cover it.
        for (int mode : new int[] {IS, IX, SIX}) {
            twins.refused("covered row in mode " + mode, ARGUMENT, holding(0, IX, 1, IX, 4, X),
                x -> x.lock(0, 10, mode));
        }
    }

    private static void lockEveryModeButOnRows() {
        for (int r = 0; r < 10; r++) {
            for (int mode = IS; mode <= X; mode++) {
                TieredLocks x = begun(1);
                takeAllAbove(x, 0, r, IX);
                check.same(r + " in mode " + mode, GRANTED, x.lock(0, r, mode));
                check.same(r + " in mode " + mode, mode, x.held(0, r));
            }
        }
    }

    private static void lockTwoWrongArguments() {
        for (int t : WRONG_TRANSACTIONS) {
            for (int r : WRONG_RESOURCES) {
                check.raises("lock by " + t + " of " + r, ARGUMENT, () -> begun(8).lock(t, r, S));
            }
            for (int mode : WRONG_MODES) {
                check.raises("lock by " + t + " in mode " + mode, ARGUMENT, () -> begun(8).lock(t, 0, mode));
            }
        }
        for (int r : WRONG_RESOURCES) {
            for (int mode : WRONG_MODES) {
                check.raises("lock of " + r + " in mode " + mode, ARGUMENT, () -> begun(8).lock(0, r, mode));
            }
        }
    }

    /** "IllegalStateException: t is not active" */
    private static void lockByOneThatIsNotActive() {
        for (int t = 0; t < 8; t++) {
            int idle = t;
            twins.refused("lock by one never begun", STATE, TieredLocks::new, x -> x.lock(idle, 0, IS));
        }
        twins.refused("lock by an idle one", STATE, LockTest::busy, x -> x.lock(7, 0, IS));
        twins.refused("lock by one that has ended", STATE, () -> {
            TieredLocks x = busy();
            x.end(0);
            return x;
        }, x -> x.lock(0, 0, IS));
        for (int mode = IS; mode <= X; mode++) {
            int asked = mode;
            twins.refused("lock by one that waits, of the same", STATE, LockTest::busy, x -> x.lock(5, 4, asked));
            twins.refused("lock by one that waits, of what it holds", STATE, LockTest::busy,
                x -> x.lock(5, 1, asked));
            twins.refused("lock by an upgrade that waits", STATE, LockTest::busy, x -> x.lock(4, 6, asked));
        }
        TieredLocks again = busy();
        again.end(0);
        check.same("lock by one that waited and was served", KEPT, again.lock(1, 10, S));
    }

    /** "UnsupportedOperationException: r has a parent, and t holds no mode on it" */
    private static void lockWithoutTheParent() {
        for (int r = 1; r < 34; r++) {
            int low = r;
            for (int mode = IS; mode <= X; mode++) {
                int asked = mode;
                if (r < 10 || mode == S || mode == X) {
                    check.raises("nothing held, mode " + mode + " on " + r, UNSUPPORTED,
                        () -> begun(1).lock(0, low, asked));
                }
            }
            twins.refused("all but the parent of " + r, UNSUPPORTED, () -> {
                TieredLocks x = begun(1);
                takeAllAbove(x, 0, PARENT[low], IX);
                return x;
            }, x -> x.lock(0, low, S));
        }
        twins.refused("X on the database alone", UNSUPPORTED, holding(0, X), x -> x.lock(0, 4, S));
        twins.refused("X on the table alone", UNSUPPORTED, holding(0, IX, 1, X), x -> x.lock(0, 10, S));
        twins.refused("another one holds the parent", UNSUPPORTED, LockTest::busy, x -> x.lock(6, 1, IS));
        twins.refused("the page beside", UNSUPPORTED, LockTest::busy, x -> x.lock(0, 14, S));
        twins.refused("given up again", UNSUPPORTED, () -> {
            TieredLocks x = begun(1);
            take(x, 0, 0, IX);
            x.unlock(0, 0);
            return x;
        }, x -> x.lock(0, 1, IS));
    }

    /** "that covers IS (for IS and S), or IX (for the others)" */
    private static void lockWithTooWeakAParent() {
        for (int above : new int[] {IS, S}) {
            for (int mode : new int[] {IX, SIX, X}) {
                twins.refused("table in " + mode + " under " + above, UNSUPPORTED, holding(0, above),
                    x -> x.lock(0, 1, mode));
                twins.refused("page in " + mode + " under " + above, UNSUPPORTED, holding(0, IX, 3, above),
                    x -> x.lock(0, 9, mode));
            }
            twins.refused("row in X under " + above, UNSUPPORTED, holding(0, IX, 3, IX, 9, above),
                x -> x.lock(0, 33, X));
        }
        check.same("IS under IS", GRANTED, holding(0, IS).get().lock(0, 1, IS));
        check.same("S under IS", GRANTED, holding(0, IS).get().lock(0, 1, S));
        for (int mode = IS; mode <= X; mode++) {
            check.same(mode + " under IX", GRANTED, holding(0, IX).get().lock(0, 1, mode));
        }
        for (int mode : new int[] {IX, SIX, X}) {
            check.same(mode + " under SIX", GRANTED, holding(0, SIX).get().lock(0, 1, mode));
        }
        // What would be a mere KEPT needs the parent all the same; S below keeps its IS above.
        check.same("S again under IS", KEPT, holding(0, IS, 1, S).get().lock(0, 1, S));
        twins.refused("IX where S is held under IS", UNSUPPORTED, holding(0, IS, 1, S), x -> x.lock(0, 1, IX));
    }

    /** "A request; what comes of it." */
    private static void lockAnswersAll() {
        twins.changed("GRANTED", 1, LockTest::busy, x -> x.lock(0, 12, X),
            "held(0, 12)=5", "locks(0)=6", "access(0, 12)=2");
        twins.changed("WAITS", 0, LockTest::busy, x -> x.lock(2, 10, S),
            "state(2)=12", "wanted(2)=3", "queue(10, 1)=2", "waitsFor(2)=3");
        twins.changed("WAITS, an upgrade", 0, LockTest::busy, x -> x.lock(0, 11, X),
            "state(0)=13", "wanted(0)=5", "queue(11, 0)=0", "waitsFor(0)=4");
        twins.unchanged("KEPT", 3, LockTest::busy, x -> x.lock(0, 10, S));
        twins.unchanged("COVERED", 2, holding(0, IX, 1, X), x -> x.lock(0, 4, SIX));
        // 0 would wait for 1, which holds IX there as well and waits for 0's row.
        twins.unchanged("DEADLOCK", 4, LockTest::busy, x -> x.lock(0, 4, S));
    }

    // ---- promise 4 ----

    /** "IllegalArgumentException: there is no such transaction or resource" */
    private static void unlockNoSuchTransactionOrResource() {
        for (int t : WRONG_TRANSACTIONS) {
            twins.refused("unlock by " + t, ARGUMENT, LockTest::busy, x -> x.unlock(t, 10));
            for (int r : WRONG_RESOURCES) {
                check.raises("unlock by " + t + " of " + r, ARGUMENT, () -> busy().unlock(t, r));
            }
        }
        for (int r : WRONG_RESOURCES) {
            twins.refused("unlock of " + r, ARGUMENT, LockTest::busy, x -> x.unlock(0, r));
            check.raises("unlock of " + r + " by an idle one", ARGUMENT, () -> busy().unlock(7, r));
            check.raises("unlock of " + r + " by one that waits", ARGUMENT, () -> busy().unlock(1, r));
        }
    }

    /** "IllegalStateException: t is not active" */
    private static void unlockByOneThatIsNotActive() {
        for (int r = 0; r < 34; r++) {
            int any = r;
            twins.refused("unlock by an idle one of " + r, STATE, LockTest::busy, x -> x.unlock(7, any));
            check.raises("unlock by one that waits of " + r, STATE, () -> busy().unlock(1, any));
            check.raises("unlock by an upgrade that waits of " + r, STATE, () -> busy().unlock(4, any));
        }
        twins.refused("unlock of what it holds while it waits", STATE, LockTest::busy, x -> x.unlock(1, 4));
        twins.refused("unlock of what it waits for", STATE, LockTest::busy, x -> x.unlock(1, 10));
        twins.refused("unlock of what it holds and waits for", STATE, LockTest::busy, x -> x.unlock(4, 6));
        twins.refused("unlock after the end", STATE, () -> {
            TieredLocks x = busy();
            x.end(0);
            return x;
        }, x -> x.unlock(0, 11));
    }

    /** "or holds nothing there" */
    private static void unlockWhatIsNotHeld() {
        for (int r = 0; r < 34; r++) {
            int any = r;
            twins.refused("unlock by one that holds nothing of " + r, STATE, LockTest::busy, x -> x.unlock(6, any));
        }
        twins.refused("another one holds it", STATE, LockTest::busy, x -> x.unlock(2, 10));
        twins.refused("its parent is held", STATE, LockTest::busy, x -> x.unlock(0, 12));
        twins.refused("covered, but not held", STATE, holding(0, IX, 1, X), x -> x.unlock(0, 4));
        twins.refused("given up before", STATE, () -> {
            TieredLocks x = busy();
            x.unlock(0, 10);
            return x;
        }, x -> x.unlock(0, 10));
    }

    /** "UnsupportedOperationException: it holds something on a resource whose parent r is" */
    private static void unlockAboveAChild() {
        for (int r = 1; r < 34; r++) {
            for (int mode : r < 10 ? new int[] {IS, IX, S, SIX, X} : new int[] {S, X}) {
                int child = r;
                twins.refused("unlock of the parent of " + r + " held in " + mode, UNSUPPORTED, () -> {
                    TieredLocks x = begun(1);
                    takeAllAbove(x, 0, child, IX);
                    take(x, 0, child, mode);
                    return x;
                }, x -> x.unlock(0, PARENT[child]));
            }
        }
        for (int r = 0; r < 10; r++) {
            TieredLocks x = begun(2);
            for (int any = 0; any < 34; any++) {
                take(x, 1, any, any < 10 ? IX : S);
                if (!isAbove(r, any)) {
                    take(x, 0, any, any < 10 ? IX : S);
                }
            }
            x.unlock(0, r);
            check.same("neither another one's children of " + r + " nor children elsewhere", FREE, x.held(0, r));
        }

        TieredLocks waits = begun(2);
        take(waits, 0, 0, IX, 1, X);
        take(waits, 1, 0, IX);
        await(waits, 1, 1, S);
        waits.unlock(0, 1);
        waits.unlock(0, 0);
        check.same("upwards, one after the other", 0, waits.locks(0));
        check.same("and the other one holds its own", 2, waits.locks(1));
    }

    /** "t gives up what it holds on r, and r is served" */
    private static void unlockGivesUpAndServes() {
        twins.changed("nobody waits", 0, LockTest::busy, x -> unlocked(x, 2, 11),
            "held(2, 11)=0", "locks(2)=3", "access(2, 11)=0");
        twins.changed("one waits", 0, LockTest::busy, x -> unlocked(x, 0, 10),
            "held(0, 10)=0", "locks(0)=4", "access(0, 10)=0",
            "held(1, 10)=3", "locks(1)=4", "access(1, 10)=1",
            "state(1)=1", "wanted(1)=0", "waitsFor(1)=0", "queue(10, 0)=-1");
        twins.changed("an upgrade waits", 0, () -> {
            TieredLocks x = busy();
            x.unlock(3, 18);
            return x;
        }, x -> unlocked(x, 3, 6), onRows(4, 18, 21, 1, "held(3, 6)=0", "locks(3)=2", "held(4, 6)=3",
            "state(4)=1", "wanted(4)=0", "waitsFor(4)=0", "queue(6, 0)=-1"));
        for (int mode = IS; mode <= X; mode++) {
            TieredLocks x = holding(0, mode).get();
            x.unlock(0, 0);
            check.same("all of " + mode + " is given up", FREE, x.held(0, 0));
            check.same("and it stays active", ACTIVE, x.state(0));
        }
    }

    // ---- promise 5 ----

    /** "IllegalArgumentException: there is no such transaction" */
    private static void escalateNoSuchTransaction() {
        for (int t : WRONG_TRANSACTIONS) {
            twins.refused("escalate by " + t, ARGUMENT, LockTest::busy, x -> x.escalate(t, 1));
            for (int r : WRONG_RESOURCES) {
                check.raises("escalate by " + t + " of " + r, ARGUMENT, () -> busy().escalate(t, r));
            }
        }
    }

    /** "or r is neither a table nor a page" */
    private static void escalateNeitherTableNorPage() {
        List<Integer> wrong = new ArrayList<>(List.of(0));
        for (int row = 10; row < 34; row++) {
            wrong.add(row);
        }
        for (int r : WRONG_RESOURCES) {
            wrong.add(r);
        }
        for (int r : wrong) {
            twins.refused("escalate to " + r, ARGUMENT, LockTest::busy, x -> x.escalate(0, r));
            check.raises("escalate by an idle one to " + r, ARGUMENT, () -> busy().escalate(7, r));
            check.raises("escalate by one that waits to " + r, ARGUMENT, () -> busy().escalate(1, r));
        }
        for (int r = 1; r < 10; r++) {
            check.same("escalate to a table or page " + r, 0, begun(1).escalate(0, r));
        }
    }

    /** "IllegalStateException: t is not active" */
    private static void escalateByOneThatIsNotActive() {
        for (int r = 1; r < 10; r++) {
            int high = r;
            twins.refused("escalate by an idle one to " + r, STATE, LockTest::busy, x -> x.escalate(7, high));
            twins.refused("escalate by one that waits to " + r, STATE, LockTest::busy, x -> x.escalate(1, high));
        }
        twins.refused("escalate while an upgrade waits", STATE, LockTest::busy, x -> x.escalate(4, 2));
        twins.refused("escalate after the end", STATE, () -> {
            TieredLocks x = busy();
            x.end(0);
            return x;
        }, x -> x.escalate(0, 1));
    }

    /** "0, and nothing is done, when it holds nothing below." */
    private static void escalateNothingBelow() {
        for (int r = 1; r < 10; r++) {
            int high = r;
            twins.unchanged("nothing held at all, " + r, 0, LockTest::busy, x -> x.escalate(6, high));
            for (int mode = IS; mode <= X; mode++) {
                int own = mode;
                twins.unchanged("nothing but " + r + " in mode " + mode, 0, () -> {
                    TieredLocks x = begun(1);
                    takeAllAbove(x, 0, high, IX);
                    take(x, 0, high, own);
                    return x;
                }, x -> x.escalate(0, high));
            }
        }
        for (int r : new int[] {2, 3, 5, 6, 7, 8, 9}) {
            twins.unchanged("locks elsewhere than below " + r, 0, LockTest::busy, x -> x.escalate(0, r));
        }
        twins.unchanged("another one's locks below", 0, () -> {
            TieredLocks x = begun(2);
            take(x, 0, 0, IX, 1, IX);
            take(x, 1, 0, IX, 1, IX, 4, IX, 10, X);
            return x;
        }, x -> x.escalate(0, 1));
        twins.unchanged("nothing below, and another one against it", 0, () -> {
            TieredLocks x = begun(2);
            take(x, 0, 0, IX);
            take(x, 1, 0, IX, 1, X);
            return x;
        }, x -> x.escalate(0, 1));
        twins.unchanged("given up before", 0, () -> {
            TieredLocks x = holding(0, IX, 1, IX, 4, IX, 10, X).get();
            x.escalate(0, 1);
            return x;
        }, x -> x.escalate(0, 1));
    }

    /** Transaction t holds page 4 in a mode, and table 1 in another; u holds the table in a third. */
    private static TieredLocks twoOnTheTable(int t, int page, int own, int u, int others) {
        TieredLocks x = begun(8);
        take(x, t, 0, IX, 1, own, 4, page);
        take(x, u, 0, IX, 1, others);
        return x;
    }

    /** "NONE, and nothing is done, when what it would hold on r does not go together with what another one holds there." */
    private static void escalateAgainstAnother() {
        int[][] ends = {{0, 7}, {7, 0}, {3, 4}, {4, 3}};
        for (int[] pair : ends) {
            int t = pair[0];
            int u = pair[1];
            twins.unchanged("S against IX", NONE, () -> twoOnTheTable(t, S, IS, u, IX), x -> x.escalate(t, 1));
            twins.unchanged("S against SIX", NONE, () -> twoOnTheTable(t, S, IS, u, SIX), x -> x.escalate(t, 1));
            twins.unchanged("X against IS", NONE, () -> twoOnTheTable(t, X, IX, u, IS), x -> x.escalate(t, 1));
            twins.unchanged("X against IX", NONE, () -> twoOnTheTable(t, IX, IX, u, IX), x -> x.escalate(t, 1));
            twins.unchanged("X for the table's own IX", NONE, () -> twoOnTheTable(t, S, IX, u, IS),
                x -> x.escalate(t, 1));
            twins.unchanged("X for the table's own SIX", NONE, () -> twoOnTheTable(t, X, SIX, u, IS),
                x -> x.escalate(t, 1));
        }
        twins.unchanged("page with two on it", NONE, LockTest::busy, x -> x.escalate(0, 4));
        twins.unchanged("page with one that waits on it", NONE, LockTest::busy, x -> x.escalate(3, 6));
        twins.unchanged("S beside S, and a third one in IX", NONE, () -> {
            TieredLocks x = twoOnTheTable(0, S, IS, 1, IS);
            take(x, 7, 0, IX, 1, IX);
            return x;
        }, x -> x.escalate(0, 1));
    }

    private static void escalateBesideAnother() {
        for (int others : new int[] {IS, S}) {
            for (int page : new int[] {IS, S}) {
                twins.changed("S beside " + others, 1, () -> twoOnTheTable(0, page, IS, 7, others),
                    x -> x.escalate(0, 1), onRows(0, page == S ? 14 : 10, 17, 1,
                        "held(0, 1)=3", "held(0, 4)=0", "locks(0)=2"));
            }
        }
        TieredLocks above = begun(2);
        take(above, 0, 0, IX, 1, IX, 4, X);
        take(above, 1, 0, IX, 2, X);
        check.same("another one's locks above and beside do not matter", 1, above.escalate(0, 1));
    }

    /** "with m being X, if it holds IX, SIX or X on one of them or on r, otherwise S, it holds .. the join of m and .." */
    private static void escalateToXOrS() {
        for (int own = IS; own <= X; own++) {
            for (int page = IS; page <= X; page++) {
                TieredLocks x = begun(1);
                // The table has to let the page be locked first; its own mode comes afterwards.
                int needed = page == IS || page == S ? IS : IX;
                take(x, 0, 0, IX, 1, needed, 4, page);
                x.lock(0, 1, own);
                boolean writes = needed == IX || own == IX || own == SIX || own == X;
                check.same("table in " + own + ", page in " + page, 1, x.escalate(0, 1));
                check.same("table in " + own + ", page in " + page, writes ? X : S, x.held(0, 1));
            }
            for (int row : new int[] {S, X}) {
                TieredLocks x = begun(1);
                take(x, 0, 0, IX, 3, IX, 9, row == S ? IS : IX, 33, row);
                x.lock(0, 9, own);
                boolean writes = row == X || own == IX || own == SIX || own == X;
                check.same("page in " + own + ", row in " + row, 1, x.escalate(0, 9));
                check.same("page in " + own + ", row in " + row, writes ? X : S, x.held(0, 9));
            }
        }
        TieredLocks last = begun(1);
        take(last, 0, 0, IX, 1, IX, 4, IS, 5, IS, 10, S, 17, S);
        check.same("what is above r does not count, what is on r does", 1, last.escalate(0, 4));
        check.same("page 4 was read alone", S, last.held(0, 4));
        check.same("its table was held in IX", 3, last.escalate(0, 1));
        check.same("its table was held in IX", X, last.held(0, 1));

        TieredLocks reads = begun(1);
        take(reads, 0, 0, IX, 2, IX, 7, IX, 25, X, 1, IS, 4, IS, 10, S);
        check.same("what is written beside r does not count", 2, reads.escalate(0, 1));
        check.same("what is written beside r does not count", S, reads.held(0, 1));
    }

    /** "how many were given up" */
    private static void escalateFewestAndMost() {
        for (int r = 1; r < 10; r++) {
            TieredLocks full = begun(1);
            for (int any = 0; any < 34; any++) {
                take(full, 0, any, any < 10 ? IX : X);
            }
            int most = r < 4 ? 10 : 4;
            check.same("all below " + r, most, full.escalate(0, r));
            check.same("all but those below " + r, 34 - most, full.locks(0));
            for (int any = 0; any < 34; any++) {
                int due = isAbove(r, any) ? FREE : any == r || any >= 10 ? X : IX;
                check.same(any + " after escalate to " + r, due, full.held(0, any));
            }
            for (int low = 0; low < 34; low++) {
                if (PARENT[low] == r) {
                    TieredLocks one = begun(1);
                    takeAllAbove(one, 0, low, IS);
                    take(one, 0, low, S);
                    check.same(low + " alone below " + r, 1, one.escalate(0, r));
                    check.same(low + " is given up", FREE, one.held(0, low));
                }
            }
        }
    }

    /** "(and nothing else changes)" */
    private static void escalateChangesNothingElse() {
        Supplier<TieredLocks> scene = () -> {
            TieredLocks x = begun(4);
            take(x, 0, 0, IX, 1, IX, 4, IX, 10, X, 13, S, 5, IS, 17, S, 2, IX, 6, X);
            take(x, 1, 0, IX, 2, IX, 7, X);
            take(x, 2, 0, IX);
            await(x, 1, 6, S);
            await(x, 2, 0, S);
            return x;
        };
        twins.changed("to a page", 2, scene, x -> x.escalate(0, 4), "held(0, 4)=5", "held(0, 10)=0", "held(0, 13)=0",
            "locks(0)=7", "access(0, 11)=2", "access(0, 12)=2", "access(0, 13)=2");
        twins.changed("to a table", 5, scene, x -> x.escalate(0, 1), onRows(0, 11, 17, 2, "held(0, 1)=5",
            "held(0, 4)=0", "held(0, 5)=0", "held(0, 10)=0", "held(0, 13)=0", "held(0, 17)=0", "locks(0)=4"));
    }

    /** What others want on r is no hindrance, and nobody who waits for r is let in by more that is held there. */
    private static void escalatePastTheQueue() {
        twins.changed("one waits for the table", 2, () -> {
            TieredLocks x = begun(3);
            take(x, 0, 0, IX, 1, IX, 4, IX, 10, X);
            take(x, 1, 0, IX);
            take(x, 2, 0, IX);
            await(x, 1, 1, S);
            await(x, 2, 1, IS);
            return x;
        }, x -> x.escalate(0, 1), onRows(0, 11, 17, 2, "held(0, 1)=5", "held(0, 4)=0", "held(0, 10)=0", "locks(0)=2",
            "waitsFor(2)=3"));
    }

    // ---- promise 6 ----

    /** "IllegalArgumentException: there is no such transaction" */
    private static void endNoSuchTransaction() {
        for (int t : WRONG_TRANSACTIONS) {
            twins.refused("end of " + t, ARGUMENT, LockTest::busy, x -> x.end(t));
            check.raises("end of " + t + " on a new object", ARGUMENT, () -> new TieredLocks().end(t));
        }
    }

    /** "IllegalStateException: it is idle" */
    private static void endOfAnIdleOne() {
        for (int t = 0; t < 8; t++) {
            int idle = t;
            twins.refused("end of one never begun", STATE, TieredLocks::new, x -> x.end(idle));
            twins.refused("end twice", STATE, () -> {
                TieredLocks x = begun(8);
                take(x, idle, 0, X);
                x.end(idle);
                return x;
            }, x -> x.end(idle));
        }
        twins.refused("end of an idle one among others", STATE, LockTest::busy, x -> x.end(7));
    }

    private static void endWithNothing() {
        for (int t = 0; t < 8; t++) {
            int last = t;
            twins.changed("end of " + t + " with nothing", 0, () -> begun(8), x -> x.end(last), "state(" + t + ")=0");
        }
        twins.changed("end with nothing among others", 0, LockTest::busy, x -> x.end(6), "state(6)=0");
    }

    private static void endWithEverything() {
        TieredLocks x = begun(8);
        for (int r = 0; r < 34; r++) {
            take(x, 7, r, r < 10 ? IX : X);
        }
        check.same("end of one that holds all", 0, x.end(7));
        for (int r = 0; r < 34; r++) {
            check.same("nothing is left on " + r, FREE, x.held(7, r));
        }
        check.same("idle", IDLE, x.state(7));
        take(x, 0, 0, X);
    }

    /** "if it waits, it leaves that queue; it is idle" */
    private static void endLeavesTheQueue() {
        int[] order = {5, 1, 7, 3};
        for (int place = 0; place < 4; place++) {
            TieredLocks x = begun(8);
            take(x, 0, 0, X);
            for (int t : order) {
                await(x, t, 0, S);
            }
            check.same("end of the one at place " + place, 0, x.end(order[place]));
            check.same("it is idle", IDLE, x.state(order[place]));
            check.same("it wants nothing", FREE, x.wanted(order[place]));
            check.same("it waits for none", 0, x.waitsFor(order[place]));
            int[] left = new int[3];
            for (int k = 0; k < 3; k++) {
                left[k] = order[k < place ? k : k + 1];
            }
            sameQueue("without the one at place " + place, x, 0, left);
            check.same("the others come in at once", 3, x.end(0));
        }
        twins.changed("end of one that holds elsewhere", 0, LockTest::busy, x -> x.end(1),
            "state(1)=0", "wanted(1)=0", "waitsFor(1)=0", "queue(10, 0)=-1",
            "held(1, 0)=0", "held(1, 1)=0", "held(1, 4)=0", "locks(1)=0", "waitsFor(5)=1");
        twins.changed("end of an upgrade that waits", 0, LockTest::busy, x -> x.end(4),
            "state(4)=0", "wanted(4)=0", "waitsFor(4)=0", "queue(6, 0)=-1",
            "held(4, 0)=0", "held(4, 2)=0", "held(4, 6)=0", "locks(4)=0");
    }

    /** "for each resource from 33 down to 0 that it held or waited for .. it is served" */
    private static void endServesWhatItWaitedFor() {
        twins.changed("who stood behind it comes in", 1, () -> {
            TieredLocks x = begun(3);
            take(x, 0, 0, S);
            await(x, 1, 0, IX);
            await(x, 2, 0, S);
            return x;
        }, x -> x.end(1), onRows(2, 10, 33, 1, "state(1)=0", "wanted(1)=0", "waitsFor(1)=0",
            "queue(0, 0)=-1", "queue(0, 1)=-1", "state(2)=1", "wanted(2)=0", "waitsFor(2)=0",
            "held(2, 0)=3", "locks(2)=1"));
        twins.changed("who does not fit waits on", 0, () -> {
            TieredLocks x = begun(3);
            take(x, 0, 0, S);
            await(x, 1, 0, IX);
            await(x, 2, 0, X);
            return x;
        }, x -> x.end(1), "state(1)=0", "wanted(1)=0", "waitsFor(1)=0", "queue(0, 0)=2", "queue(0, 1)=-1",
            "waitsFor(2)=1");
        for (int r = 0; r < 34; r++) {
            TieredLocks x = begun(3);
            for (int t = 0; t < 3; t++) {
                takeAllAbove(x, t, r, IX);
            }
            take(x, 0, r, S);
            await(x, 1, r, X);
            await(x, 2, r, S);
            check.same("end of the one that waits for " + r, 1, x.end(1));
            check.same("the one behind it holds " + r, S, x.held(2, r));
        }
    }

    /** "how many transactions became active by that" */
    private static void endCountsThoseThatBecameActive() {
        for (int waiting = 0; waiting < 8; waiting++) {
            TieredLocks x = begun(8);
            take(x, 7, 0, X);
            for (int t = 0; t < waiting; t++) {
                await(x, t, 0, IX);
            }
            check.same("waiting for the database: " + waiting, waiting, x.end(7));
        }
        for (int r = 0; r < 34; r++) {
            TieredLocks x = begun(2);
            takeAllAbove(x, 0, r, IX);
            takeAllAbove(x, 1, r, IX);
            take(x, 1, r, X);
            await(x, 0, r, X);
            check.same("one waits for " + r, 1, x.end(1));
            check.same("it holds " + r, X, x.held(0, r));
        }
        TieredLocks many = begun(8);
        int[] resources = {0, 3, 9, 33, 10, 1, 2};
        for (int t = 0; t < 8; t++) {
            take(many, t, 0, t == 0 ? IS : IX);
        }
        take(many, 7, 1, IX, 2, IX, 3, IX, 4, IX, 9, IX, 10, X, 33, X);
        for (int t = 2; t < 7; t++) {
            take(many, t, 1, IX, 2, IX, 3, IX, 4, IX, 9, IX);
        }
        await(many, 2, 33, S);
        await(many, 3, 33, S);
        await(many, 4, 10, X);
        await(many, 5, 10, X);
        await(many, 1, 3, S);
        check.same("of several queues", 3, many.end(7));
        for (int r : resources) {
            check.same("nothing is left on " + r, FREE, many.held(7, r));
        }
        sameQueue("the second X waits on", many, 10, 5);
        sameQueue("S waits on for the IX of the others", many, 3, 1);

        twins.changed("of two queues, one has to wait on", 1, LockTest::busy, x -> x.end(0),
            "state(0)=0", "locks(0)=0", "held(0, 0)=0", "held(0, 1)=0", "held(0, 4)=0", "held(0, 10)=0", "held(0, 11)=0",
            "access(0, 10)=0", "access(0, 11)=0", "access(1, 10)=1", "held(1, 10)=3", "locks(1)=4",
            "state(1)=1", "wanted(1)=0", "waitsFor(1)=0", "queue(10, 0)=-1", "waitsFor(5)=2");
    }

    // ---- promise 7 ----

    /** "NONE when there is no such transaction or resource" */
    private static void heldNoSuch() {
        for (int t : WRONG_TRANSACTIONS) {
            TieredLocks x = busy();
            for (int r = 0; r < 34; r++) {
                check.same("held(" + t + ", " + r + ")", NONE, x.held(t, r));
            }
            for (int r : WRONG_RESOURCES) {
                check.same("held(" + t + ", " + r + ")", NONE, x.held(t, r));
            }
        }
        for (int r : WRONG_RESOURCES) {
            TieredLocks x = busy();
            for (int t = 0; t < 8; t++) {
                check.same("held(" + t + ", " + r + ")", NONE, x.held(t, r));
            }
        }
    }

    private static void heldFirstAndLast() {
        TieredLocks x = begun(8);
        for (int t = 0; t < 8; t++) {
            take(x, t, 0, IX, 3, IX, 9, IX);
        }
        take(x, 0, 33, S);
        take(x, 7, 33, S);
        check.same("the first one, the last row", S, x.held(0, 33));
        check.same("the last one, the last row", S, x.held(7, 33));
        check.same("the last one, the database", IX, x.held(7, 0));
        check.same("the row before", FREE, x.held(7, 32));
        await(x, 1, 33, X);
        check.same("what is only wanted", FREE, x.held(1, 33));
        await(x, 7, 33, X);
        check.same("what is held while more is wanted", S, x.held(7, 33));
    }

    // ---- promises 8 and 9 ----

    /** "0 for an idle transaction, 1 for an active one, 2 + r for one that waits for r. NONE when there is none." */
    private static void stateOfEachKind() {
        TieredLocks x = busy();
        int[] due = {1, 2 + 10, 1, 1, 2 + 6, 2 + 4, 1, 0};
        for (int t = 0; t < 8; t++) {
            check.same("state(" + t + ")", due[t], x.state(t));
        }
        for (int t : WRONG_TRANSACTIONS) {
            check.same("state(" + t + ")", NONE, x.state(t));
        }
        TieredLocks ends = begun(4);
        take(ends, 0, 0, IX, 3, IX, 9, IX, 33, X);
        take(ends, 1, 0, IX, 3, IX, 9, IX);
        await(ends, 1, 33, S);
        await(ends, 2, 0, X);
        check.same("waits for the last row", 35, ends.state(1));
        check.same("waits for the database", 2, ends.state(2));
        check.same("active", 1, ends.state(3));
        ends.end(3);
        check.same("ended", 0, ends.state(3));
        ends.end(0);
        check.same("served", 1, ends.state(1));
    }

    /** "What t wants; 0 when it does not wait. NONE when there is no such transaction." */
    private static void wantedOnlyWhileWaiting() {
        TieredLocks x = busy();
        int[] due = {0, S, 0, 0, S, S, 0, 0};
        for (int t = 0; t < 8; t++) {
            check.same("wanted(" + t + ")", due[t], x.wanted(t));
        }
        for (int t : WRONG_TRANSACTIONS) {
            check.same("wanted(" + t + ")", NONE, x.wanted(t));
        }
        for (int mode = IS; mode <= X; mode++) {
            TieredLocks y = begun(2);
            take(y, 0, 0, X);
            await(y, 1, 0, mode);
            check.same("wanted in mode " + mode, mode, y.wanted(1));
            y.unlock(0, 0);
            check.same("no more when it is served", FREE, y.wanted(1));
        }
        TieredLocks join = begun(2);
        take(join, 0, 0, IX);
        take(join, 1, 0, IX);
        await(join, 0, 0, S);
        check.same("the join of what was asked and what is held", SIX, join.wanted(0));
        check.same("a request that is a deadlock", DEADLOCK, join.lock(1, 0, S));
        check.same("is wanted no more", FREE, join.wanted(1));
        join.end(0);
        check.same("nor after the end", FREE, join.wanted(0));
    }

    // ---- promise 10 ----

    /** "The transaction at place k (from 0, the first one) of the queue of r; NONE when there is none." */
    private static void queuePlaces() {
        TieredLocks x = begun(8);
        take(x, 0, 0, X);
        for (int t = 1; t < 8; t++) {
            await(x, t, 0, IS);
        }
        for (int k = 0; k < 7; k++) {
            check.same("place " + k, k + 1, x.queue(0, k));
        }
        int[] wrong = {-1, 7, 8, Integer.MIN_VALUE, Integer.MAX_VALUE, -7, 32, 256, 65536};
        for (int k : wrong) {
            check.same("place " + k, NONE, x.queue(0, k));
            for (int r : WRONG_RESOURCES) {
                check.same("queue(" + r + ", " + k + ")", NONE, x.queue(r, k));
            }
        }
        for (int r : WRONG_RESOURCES) {
            check.same("queue(" + r + ", 0)", NONE, x.queue(r, 0));
            check.same("queue(" + r + ", 0) while all are idle", NONE, new TieredLocks().queue(r, 0));
            check.same("queue(" + r + ", 0) while all are active", NONE, begun(8).queue(r, 0));
        }
        check.same("minus two", NONE, x.queue(-2, 0));
        x.unlock(0, 0);
        for (int k = 0; k < 8; k++) {
            check.same("all are served: place " + k, NONE, x.queue(0, k));
        }
        TieredLocks empty = begun(8);
        for (int r = 0; r < 34; r++) {
            for (int k = 0; k < 8; k++) {
                check.same("nobody waits: place " + k, NONE, empty.queue(r, k));
            }
        }
    }

    // ---- promise 11 ----

    /** "The transactions for which t waits, as the sum of 2^u; 0 when it does not wait. NONE when there is no such .." */
    private static void waitsForSums() {
        for (int t = 0; t < 8; t++) {
            for (int u = 0; u < 8; u++) {
                if (t != u) {
                    TieredLocks x = begun(8);
                    take(x, u, 0, X);
                    await(x, t, 0, IS);
                    check.same(t + " waits for " + u, 1 << u, x.waitsFor(t));
                    check.same(u + " waits for none", 0, x.waitsFor(u));
                }
            }
            TieredLocks all = begun(8);
            for (int u = 0; u < 8; u++) {
                if (u != t) {
                    take(all, u, 0, IS);
                }
            }
            await(all, t, 0, X);
            check.same(t + " waits for all others", 255 - (1 << t), all.waitsFor(t));
        }
        TieredLocks x = busy();
        int[] due = {0, 1, 0, 0, 8, 1 + 2, 0, 0};
        for (int t = 0; t < 8; t++) {
            check.same("waitsFor(" + t + ")", due[t], x.waitsFor(t));
        }
        for (int t : WRONG_TRANSACTIONS) {
            check.same("waitsFor(" + t + ")", NONE, x.waitsFor(t));
            check.same("waitsFor(" + t + ") of a new object", NONE, new TieredLocks().waitsFor(t));
        }
    }

    // ---- promise 12 ----

    /** "NONE when there is no such transaction, or r is no row" */
    private static void accessOfRowsAlone() {
        for (int t : WRONG_TRANSACTIONS) {
            check.same("access(" + t + ", 10)", NONE, busy().access(t, 10));
            check.same("access(" + t + ", 33)", NONE, busy().access(t, 33));
            for (int r : WRONG_RESOURCES) {
                check.same("access(" + t + ", " + r + ")", NONE, busy().access(t, r));
            }
        }
        for (int r = 0; r < 10; r++) {
            check.same("no row: " + r, NONE, holding(0, X).get().access(0, r));
            check.same("no row: " + r + ", of an idle one", NONE, new TieredLocks().access(0, r));
        }
        for (int r : WRONG_RESOURCES) {
            check.same("no resource: " + r, NONE, holding(0, X).get().access(0, r));
        }
        for (int r = 10; r < 34; r++) {
            check.same("row " + r, 2, holding(0, X).get().access(0, r));
            check.same("row " + r + " of an idle one", 0, holding(0, X).get().access(7, r));
        }
    }

    /** "2 write, if one of these modes is X; otherwise 1 read, if one of them is S or SIX; otherwise 0" */
    private static void accessByEachLevel() {
        int[] rights = {0, 0, 0, 1, 1, 2};
        for (int row = 10; row < 34; row++) {
            int page = PARENT[row];
            int table = PARENT[page];
            for (int high : new int[] {0, table, page}) {
                for (int mode = IS; mode <= X; mode++) {
                    TieredLocks x = begun(1);
                    takeAllAbove(x, 0, high, IX);
                    take(x, 0, high, mode);
                    check.same("row " + row + ", mode " + mode + " on " + high, rights[mode], x.access(0, row));
                }
            }
            check.same("nothing but IX above " + row, 0, holding(0, IX, table, IX, page, IX).get().access(0, row));
            check.same("S on " + row, 1, holding(0, IS, table, IS, page, IS, row, S).get().access(0, row));
            check.same("X on " + row, 2, holding(0, IX, table, IX, page, IX, row, X).get().access(0, row));
            check.same("X on " + row + ", SIX above", 2,
                holding(0, SIX, table, IX, page, SIX, row, X).get().access(0, row));
            check.same("S on " + row + ", X above", 2,
                holding(0, IX, table, IX, page, IX, row, S, table, X).get().access(0, row));
            int other = row == 33 ? 10 : row + 1;
            check.same("X on another row", 0, holding(0, IX, PARENT[PARENT[other]], IX, PARENT[other], IX, other, X)
                .get().access(0, row));
        }
        TieredLocks waits = busy();
        check.same("what is only wanted gives no right", 0, waits.access(1, 10));
        check.same("nor does what another one holds", 0, waits.access(2, 10));
        await(waits, 2, 10, S);
        check.same("what is held while it waits does", 1, waits.access(2, 11));
    }

    // ---- promise 13 ----

    /** "How many locks t holds (resources on which it does not hold NONE). NONE when there is no such transaction." */
    private static void locksFromNoneToAll() {
        TieredLocks x = begun(8);
        for (int r = 0; r < 34; r++) {
            check.same("locks so far", r, x.locks(7));
            take(x, 7, r, r < 10 ? IX : S);
        }
        check.same("on all resources", 34, x.locks(7));
        check.same("an upgrade adds none", GRANTED, x.lock(7, 0, SIX));
        check.same("an upgrade adds none", 34, x.locks(7));
        for (int r = 33; r >= 0; r--) {
            x.unlock(7, r);
            check.same("given up again", r, x.locks(7));
        }
        int[] due = {5, 3, 4, 4, 3, 2, 0, 0};
        for (int t = 0; t < 8; t++) {
            check.same("locks(" + t + ")", due[t], busy().locks(t));
        }
        for (int t : WRONG_TRANSACTIONS) {
            check.same("locks(" + t + ")", NONE, busy().locks(t));
        }
    }

    // ---- promises 7 to 13 ----

    private static void questionsChangeNothing() {
        twins.unchanged("held", 5, LockTest::busy, x -> x.held(0, 10));
        twins.unchanged("held, no such", NONE, LockTest::busy, x -> x.held(8, 34));
        twins.unchanged("state", 12, LockTest::busy, x -> x.state(1));
        twins.unchanged("state, no such", NONE, LockTest::busy, x -> x.state(8));
        twins.unchanged("wanted", S, LockTest::busy, x -> x.wanted(4));
        twins.unchanged("wanted, no such", NONE, LockTest::busy, x -> x.wanted(-1));
        twins.unchanged("queue", 5, LockTest::busy, x -> x.queue(4, 0));
        twins.unchanged("queue, none", NONE, LockTest::busy, x -> x.queue(4, 1));
        twins.unchanged("waitsFor", 3, LockTest::busy, x -> x.waitsFor(5));
        twins.unchanged("waitsFor, no such", NONE, LockTest::busy, x -> x.waitsFor(8));
        twins.unchanged("access", 2, LockTest::busy, x -> x.access(0, 10));
        twins.unchanged("access, no row", NONE, LockTest::busy, x -> x.access(0, 9));
        twins.unchanged("locks", 5, LockTest::busy, x -> x.locks(0));
        twins.unchanged("locks, no such", NONE, LockTest::busy, x -> x.locks(8));
    }
}
