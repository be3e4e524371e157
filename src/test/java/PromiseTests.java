/** For each promise of the document, ordinary inputs, the edges that it names, and wrong inputs. */
public final class PromiseTests extends LockTest {
    public static void main(String[] args) {
        constants();
        newObject();
        begin();
        lockWrongInputs();
        lockNeedsTheParent();
        lockOrderOfExceptions();
        lockCovered();
        lockJoins();
        lockKept();
        lockTogether();
        lockBehindAQueue();
        lockUpgradePassesTheQueue();
        lockUpgradeStandsBeforeOthers();
        lockDeadlockOfTwo();
        lockDeadlockOfUpgrades();
        lockDeadlockByPlaceInQueue();
        lockDeadlockByNewPlaceInFront();
        lockDeadlockOfEight();
        lockLongChainIsNoCircle();
        unlockServes();
        unlockWrongInputs();
        escalateWrites();
        escalateReads();
        escalateModeOfResourceItself();
        escalateNothingBelow();
        escalateRefused();
        escalatePassesTheQueue();
        escalateWithOthersWaitingBelow();
        escalateWrongInputs();
        endServesAll();
        endOfOneThatWaits();
        endOfOneThatWaitsAndHolds();
        endWrongInputs();
        held();
        state();
        wanted();
        queue();
        waitsFor();
        access();
        locks();
        check.finish();
    }

    // ---- promise 1 ----

    private static void constants() {
        check.same("WAITS", WAITS, TieredLocks.WAITS);
        check.same("GRANTED", GRANTED, TieredLocks.GRANTED);
        check.same("COVERED", COVERED, TieredLocks.COVERED);
        check.same("KEPT", KEPT, TieredLocks.KEPT);
        check.same("DEADLOCK", DEADLOCK, TieredLocks.DEADLOCK);
        check.same("NONE", NONE, TieredLocks.NONE);
    }

    private static void newObject() {
        TieredLocks x = new TieredLocks();
        TieredLocks holds = new TieredLocks();
        for (int t = 0; t < 8; t++) {
            check.same("new: state", IDLE, x.state(t));
            check.same("new: wanted", FREE, x.wanted(t));
            check.same("new: waitsFor", 0, x.waitsFor(t));
            check.same("new: locks", 0, x.locks(t));
            for (int r = 0; r < 34; r++) {
                check.same("new: held", FREE, holds.held(t, r));
            }
        }
        for (int r = 0; r < 34; r++) {
            sameQueue("new", x, r);
        }
    }

    // ---- promise 2 ----

    private static void begin() {
        TieredLocks x = new TieredLocks();
        for (int t = 0; t < 8; t++) {
            check.same("begin", t, x.begin());
            check.same("begin: state", ACTIVE, x.state(t));
            check.same("begin: next one's state", t == 7 ? NONE : IDLE, x.state(t + 1));
        }
        check.same("begin: none is idle", NONE, x.begin());
        x.end(6);
        x.end(3);
        check.same("begin: least idle", 3, x.begin());
        check.same("begin: next idle", 6, x.begin());
        check.same("begin: none is idle again", NONE, x.begin());

        TieredLocks y = begun(2);
        take(y, 0, 0, X);
        y.lock(1, 0, X);
        check.same("begin: one that waits is not idle", 2, y.begin());
        check.same("begin: it goes on waiting", WAITING, y.state(1));
    }

    // ---- promise 3 ----

    private static void lockWrongInputs() {
        TieredLocks x = begun(1);
        for (int t : WRONG_TRANSACTIONS) {
            check.raises("lock: transaction " + t, ARGUMENT, () -> x.lock(t, 0, IS));
        }
        for (int r : WRONG_RESOURCES) {
            check.raises("lock: resource " + r, ARGUMENT, () -> x.lock(0, r, S));
        }
        for (int mode : WRONG_MODES) {
            check.raises("lock: mode " + mode, ARGUMENT, () -> x.lock(0, 0, mode));
            check.raises("lock: mode of a row " + mode, ARGUMENT, () -> x.lock(0, 10, mode));
        }
        take(x, 0, 0, IX, 1, IX, 4, IX, 3, IX, 9, IX);
        for (int mode : new int[] {IS, IX, SIX}) {
            check.raises("lock: first row in mode " + mode, ARGUMENT, () -> x.lock(0, 10, mode));
            check.raises("lock: last row in mode " + mode, ARGUMENT, () -> x.lock(0, 33, mode));
        }
        check.same("lock: nothing changed", 5, x.locks(0));
        take(x, 0, 10, S, 33, X);
        check.same("lock: SIX on the last page, which is no row", GRANTED, x.lock(0, 9, SIX));

        check.raises("lock: idle transaction", STATE, () -> x.lock(1, 0, IS));
        x.begin();
        x.lock(1, 0, X);
        check.same("lock: waits now", WAITING, x.state(1));
        check.raises("lock: transaction that waits", STATE, () -> x.lock(1, 0, IS));
        check.raises("lock: transaction that waits, elsewhere", STATE, () -> x.lock(1, 1, IS));
        check.same("lock: still wants X", X, x.wanted(1));
    }

    private static void lockNeedsTheParent() {
        for (int above : MODES) {
            for (int mode = IS; mode <= X; mode++) {
                TieredLocks x = begun(1);
                if (above != FREE) {
                    take(x, 0, 0, above);
                }
                int needed = mode == IS || mode == S ? IS : IX;
                int asked = mode;
                if (JOIN[above][needed] == above) {
                    x.lock(0, 3, mode);
                } else {
                    check.raises("lock: mode " + mode + " under " + above, UNSUPPORTED, () -> x.lock(0, 3, asked));
                    check.same("lock: nothing changed", FREE, x.held(0, 3));
                }
            }
        }
        for (int r = 1; r < 34; r++) {
            TieredLocks x = begun(1);
            int low = r;
            takeAllAbove(x, 0, PARENT[r], IX);
            check.raises("lock: parent of " + r + " not held", UNSUPPORTED, () -> x.lock(0, low, S));
            x.lock(0, PARENT[r], IS);
            check.raises("lock: parent of " + r + " held too weakly", UNSUPPORTED, () -> x.lock(0, low, X));
            check.same("lock: parent of " + r + " held in IS", GRANTED, x.lock(0, r, S));
            x.lock(0, PARENT[r], IX);
            check.same("lock: parent of " + r + " held in IX", GRANTED, x.lock(0, r, X));
        }
        TieredLocks other = begun(2);
        take(other, 1, 0, IX);
        check.raises("lock: another one's hold on the parent", UNSUPPORTED, () -> other.lock(0, 1, IS));
        TieredLocks far = begun(1);
        take(far, 0, 0, X);
        check.raises("lock: X far above does not stand for the parent", UNSUPPORTED, () -> far.lock(0, 4, S));
    }

    private static void lockOrderOfExceptions() {
        TieredLocks x = new TieredLocks();
        check.raises("lock: wrong mode by an idle one", ARGUMENT, () -> x.lock(0, 0, 0));
        check.raises("lock: row in IX by an idle one without a parent", ARGUMENT, () -> x.lock(0, 10, IX));
        check.raises("lock: idle one without a parent", STATE, () -> x.lock(0, 10, S));
        x.begin();
        check.raises("lock: row in IX without a parent", ARGUMENT, () -> x.lock(0, 10, IX));
        check.raises("lock: active one without a parent", UNSUPPORTED, () -> x.lock(0, 10, S));
    }

    private static void lockCovered() {
        for (int above : new int[] {IS, IX, S, SIX, X}) {
            for (int mode = IS; mode <= X; mode++) {
                boolean reads = mode == IS || mode == S;
                if (JOIN[above][reads ? IS : IX] != above) {
                    continue;
                }
                boolean covered = above == X || reads && (above == S || above == SIX);
                TieredLocks x = begun(1);
                take(x, 0, 0, above);
                check.same("lock: mode " + mode + " under " + above, covered ? COVERED : GRANTED, x.lock(0, 2, mode));
                check.same("lock: held then", covered ? FREE : mode, x.held(0, 2));
            }
        }
        TieredLocks deep = begun(1);
        take(deep, 0, 0, IX, 1, IX, 4, IX, 0, SIX);
        check.same("lock: row in S, database in SIX", COVERED, deep.lock(0, 13, S));
        check.same("lock: row in X, database in SIX", GRANTED, deep.lock(0, 13, X));
        take(deep, 0, 0, X);
        check.same("lock: row in X, database in X", COVERED, deep.lock(0, 12, X));
        check.same("lock: covered comes before kept", COVERED, deep.lock(0, 13, X));
        check.same("lock: covered leaves what is held", X, deep.held(0, 13));
        check.same("lock: covered holds nothing new", FREE, deep.held(0, 12));

        TieredLocks aside = begun(1);
        take(aside, 0, 0, IX, 1, X, 2, IX);
        check.same("lock: X on another branch covers nothing", GRANTED, aside.lock(0, 6, S));

        TieredLocks against = begun(2);
        take(against, 0, 0, IX, 1, X);
        take(against, 1, 0, IX);
        check.same("lock: another one's X covers nothing", WAITS, against.lock(1, 1, IS));
    }

    private static void lockJoins() {
        for (int first = IS; first <= X; first++) {
            for (int second = IS; second <= X; second++) {
                TieredLocks x = begun(1);
                take(x, 0, 0, first);
                int due = JOIN[first][second];
                check.same("lock: " + second + " after " + first, due == first ? KEPT : GRANTED, x.lock(0, 0, second));
                check.same("lock: join of " + first + " and " + second, due, x.held(0, 0));
                check.same("lock: still one lock", 1, x.locks(0));
            }
        }
    }

    private static void lockKept() {
        TieredLocks x = begun(3);
        take(x, 0, 0, S);
        take(x, 1, 0, IS);
        x.lock(2, 0, X);
        check.same("lock: kept in spite of the queue", KEPT, x.lock(0, 0, IS));
        check.same("lock: kept, same mode", KEPT, x.lock(0, 0, S));
        check.same("lock: kept, so active", ACTIVE, x.state(0));
        sameQueue("kept", x, 0, 2);
    }

    private static void lockTogether() {
        for (int first = IS; first <= X; first++) {
            for (int second = IS; second <= X; second++) {
                TieredLocks x = begun(3);
                take(x, 0, 0, first);
                boolean together = TOGETHER[first].charAt(second) == 'y';
                check.same("lock: " + second + " beside " + first, together ? GRANTED : WAITS, x.lock(1, 0, second));
                check.same("lock: held", together ? second : FREE, x.held(1, 0));
                check.same("lock: wanted", together ? FREE : second, x.wanted(1));
                check.same("lock: state", together ? ACTIVE : WAITING, x.state(1));
                check.same("lock: the first one keeps its own", first, x.held(0, 0));
            }
        }
        TieredLocks row = begun(3);
        for (int t = 0; t < 3; t++) {
            take(row, t, 0, IX, 3, IX, 9, IX);
        }
        take(row, 0, 33, S);
        take(row, 1, 33, S);
        check.same("lock: X on a row read by two", WAITS, row.lock(2, 33, X));
        row.unlock(0, 33);
        check.same("lock: one reader is left", WAITING + 33, row.state(2));
        row.unlock(1, 33);
        check.same("lock: no reader is left", X, row.held(2, 33));
    }

    private static void lockBehindAQueue() {
        TieredLocks x = begun(4);
        take(x, 0, 0, S);
        check.same("lock: IX beside S", WAITS, x.lock(1, 0, IX));
        check.same("lock: S behind a queue", WAITS, x.lock(2, 0, S));
        check.same("lock: IS behind a queue", WAITS, x.lock(3, 0, IS));
        sameQueue("behind", x, 0, 1, 2, 3);
    }

    private static void lockUpgradePassesTheQueue() {
        TieredLocks x = begun(3);
        take(x, 0, 0, IS);
        take(x, 1, 0, IS);
        check.same("lock: X beside IS", WAITS, x.lock(2, 0, X));
        check.same("lock: an upgrade that fits does not wait", GRANTED, x.lock(0, 0, SIX));
        check.same("lock: it holds it", SIX, x.held(0, 0));
        sameQueue("passed", x, 0, 2);
    }

    private static void lockUpgradeStandsBeforeOthers() {
        TieredLocks x = begun(7);
        for (int t = 0; t < 4; t++) {
            take(x, t, 0, IS);
        }
        take(x, 4, 0, IX);
        check.same("lock: a plain one waits", WAITS, x.lock(5, 0, X));
        check.same("lock: a second plain one waits", WAITS, x.lock(6, 0, IS));
        check.same("lock: first upgrade waits", WAITS, x.lock(3, 0, S));
        sameQueue("one upgrade", x, 0, 3, 5, 6);
        check.same("lock: second upgrade waits", WAITS, x.lock(0, 0, S));
        sameQueue("two upgrades", x, 0, 3, 0, 5, 6);
        check.same("lock: third upgrade waits", WAITS, x.lock(1, 0, SIX));
        sameQueue("three upgrades", x, 0, 3, 0, 1, 5, 6);
        check.same("lock: upgrade keeps what it holds while it waits", IS, x.held(1, 0));
        x.end(4);
        check.same("lock: first upgrade is served", S, x.held(3, 0));
        check.same("lock: second upgrade is served", S, x.held(0, 0));
        sameQueue("two served", x, 0, 1, 5, 6);
    }

    // ---- promise 3: deadlocks ----

    private static void lockDeadlockOfTwo() {
        TieredLocks x = begun(2);
        take(x, 0, 0, IX, 1, X);
        take(x, 1, 0, IX, 2, X);
        check.same("deadlock: the first waits", WAITS, x.lock(0, 2, S));
        check.same("deadlock: of two", DEADLOCK, x.lock(1, 1, IX));
        check.same("deadlock: still active", ACTIVE, x.state(1));
        check.same("deadlock: wants nothing", FREE, x.wanted(1));
        check.same("deadlock: holds nothing new", FREE, x.held(1, 1));
        check.same("deadlock: waits for none", 0, x.waitsFor(1));
        sameQueue("deadlock", x, 1);
        sameQueue("deadlock", x, 2, 0);
        check.same("deadlock: again", DEADLOCK, x.lock(1, 1, IS));
        x.unlock(1, 2);
        check.same("deadlock: the other one goes on", S, x.held(0, 2));
        check.same("deadlock: now it is only waiting", WAITS, x.lock(1, 1, IS));
    }

    private static void lockDeadlockOfUpgrades() {
        TieredLocks x = begun(3);
        take(x, 0, 0, S);
        take(x, 1, 0, S);
        check.same("upgrades: the first waits", WAITS, x.lock(0, 0, X));
        check.same("upgrades: a plain one waits", WAITS, x.lock(2, 0, IS));
        check.same("upgrades: the second is a deadlock", DEADLOCK, x.lock(1, 0, X));
        check.same("upgrades: it keeps what it held", S, x.held(1, 0));
        sameQueue("upgrades", x, 0, 0, 2);
        check.same("upgrades: still for the other one", 2, x.waitsFor(0));
        check.same("upgrades: still for the one before it", 1, x.waitsFor(2));
    }

    private static void lockDeadlockByPlaceInQueue() {
        TieredLocks x = begun(3);
        take(x, 0, 0, IX, 1, S);
        take(x, 1, 0, IX);
        take(x, 2, 0, IX, 2, X);
        check.same("place: waits for the holder", WAITS, x.lock(1, 1, X));
        check.same("place: the holder waits for the third", WAITS, x.lock(0, 2, X));
        check.same("place: S goes with S but stands behind X", DEADLOCK, x.lock(2, 1, S));
        sameQueue("place", x, 1, 1);
    }

    private static void lockDeadlockByNewPlaceInFront() {
        TieredLocks x = begun(4);
        take(x, 0, 0, IX, 1, IS);
        take(x, 1, 0, IX, 1, IS);
        take(x, 2, 0, IX, 1, S);
        take(x, 3, 0, IX, 2, X);
        check.same("front: IX waits for S alone", WAITS, x.lock(3, 1, IX));
        check.same("front: one waits for that one", WAITS, x.lock(1, 2, S));
        // The circle is 0, 1, 3, 0: 3 would wait for 0 only because the upgrade stands before it.
        check.same("front: the upgrade", DEADLOCK, x.lock(0, 1, X));
        check.same("front: state", ACTIVE, x.state(0));
        check.same("front: the other one waits for S alone", 4, x.waitsFor(3));
        sameQueue("front", x, 1, 3);
        check.same("front: an upgrade that waits for S alone", WAITS, x.lock(0, 1, IX));
        sameQueue("front: it stands before", x, 1, 0, 3);
    }

    private static void lockDeadlockOfEight() {
        TieredLocks x = begun(8);
        for (int t = 0; t < 8; t++) {
            takeAllAbove(x, t, 10 + t, IX);
            takeAllAbove(x, t, 10 + (t + 1) % 8, IX);
            take(x, t, 10 + t, X);
        }
        for (int t = 0; t < 7; t++) {
            check.same("eight: waits for the next one", WAITS, x.lock(t, 11 + t, S));
        }
        check.same("eight: the circle would close", DEADLOCK, x.lock(7, 10, S));
        check.same("eight: last one active", ACTIVE, x.state(7));
        check.same("eight: end lets one go on", 1, x.end(7));
        check.same("eight: it is the one before", ACTIVE, x.state(6));
    }

    private static void lockLongChainIsNoCircle() {
        TieredLocks x = begun(8);
        take(x, 0, 0, X);
        for (int t = 1; t < 8; t++) {
            check.same("chain: waits", WAITS, x.lock(t, 0, X));
            check.same("chain: for all before", (1 << t) - 1, x.waitsFor(t));
        }
        sameQueue("chain", x, 0, 1, 2, 3, 4, 5, 6, 7);
    }

    // ---- promise 4 ----

    private static void unlockServes() {
        TieredLocks x = begun(6);
        take(x, 0, 0, X);
        x.lock(1, 0, S);
        x.lock(2, 0, IS);
        x.lock(3, 0, IX);
        x.lock(4, 0, S);
        x.lock(5, 0, IS);
        x.unlock(0, 0);
        check.same("unlock: gave it up", FREE, x.held(0, 0));
        check.same("unlock: stays active", ACTIVE, x.state(0));
        check.same("unlock: first served", S, x.held(1, 0));
        check.same("unlock: second served", IS, x.held(2, 0));
        check.same("unlock: served one is active", ACTIVE, x.state(2));
        check.same("unlock: served one wants nothing", FREE, x.wanted(2));
        check.same("unlock: served one waits for none", 0, x.waitsFor(2));
        sameQueue("unlock: the third stops all behind it", x, 0, 3, 4, 5);
        x.unlock(1, 0);
        check.same("unlock: the third is served", IX, x.held(3, 0));
        sameQueue("unlock: S stays behind IX", x, 0, 4, 5);
        x.unlock(3, 0);
        sameQueue("unlock: all are served", x, 0);

        TieredLocks up = begun(3);
        take(up, 0, 0, S);
        take(up, 1, 0, S);
        up.lock(0, 0, X);
        up.lock(2, 0, IS);
        up.unlock(1, 0);
        check.same("unlock: an upgrade's own hold is no hindrance", X, up.held(0, 0));
        sameQueue("unlock: behind the upgrade", up, 0, 2);
    }

    private static void unlockWrongInputs() {
        TieredLocks x = begun(2);
        for (int t : WRONG_TRANSACTIONS) {
            check.raises("unlock: transaction " + t, ARGUMENT, () -> x.unlock(t, 0));
        }
        for (int r : WRONG_RESOURCES) {
            check.raises("unlock: resource " + r, ARGUMENT, () -> x.unlock(0, r));
            check.raises("unlock: resource " + r + " by an idle one", ARGUMENT, () -> x.unlock(7, r));
        }
        check.raises("unlock: idle one", STATE, () -> x.unlock(2, 0));
        check.raises("unlock: holds nothing there", STATE, () -> x.unlock(0, 0));
        take(x, 0, 0, IX, 3, IX, 8, IX, 26, X);
        check.raises("unlock: another one holds it", STATE, () -> x.unlock(1, 0));
        check.raises("unlock: database under a table", UNSUPPORTED, () -> x.unlock(0, 0));
        check.raises("unlock: table under a page", UNSUPPORTED, () -> x.unlock(0, 3));
        check.raises("unlock: page under a row", UNSUPPORTED, () -> x.unlock(0, 8));
        check.raises("unlock: page beside it", STATE, () -> x.unlock(0, 9));
        check.same("unlock: nothing changed", 4, x.locks(0));
        take(x, 1, 0, IX, 3, IX, 8, IX);
        x.lock(1, 26, S);
        check.raises("unlock: one that waits", STATE, () -> x.unlock(1, 8));
        check.raises("unlock: one that waits, under a page", STATE, () -> x.unlock(1, 3));
        x.unlock(0, 26);
        x.unlock(0, 8);
        check.raises("unlock: twice", STATE, () -> x.unlock(0, 8));
        x.unlock(0, 3);
        x.unlock(0, 0);
        check.same("unlock: all is given up", 0, x.locks(0));
        check.same("unlock: the other one holds its own", 4, x.locks(1));

        for (int r = 1; r < 34; r++) {
            TieredLocks y = begun(1);
            int parent = PARENT[r];
            takeAllAbove(y, 0, r, IS);
            take(y, 0, r, S);
            check.raises("unlock: parent of " + r, UNSUPPORTED, () -> y.unlock(0, parent));
            y.unlock(0, r);
            y.unlock(0, parent);
            check.same("unlock: parent after its child " + r, FREE, y.held(0, parent));
        }
    }

    // ---- promise 5 ----

    private static void escalateWrites() {
        TieredLocks x = begun(1);
        take(x, 0, 0, IX, 2, IX, 6, IX, 18, X, 21, S, 7, IS, 22, S, 1, IX, 5, IX, 14, X);
        check.same("escalate: page with rows", 2, x.escalate(0, 6));
        check.same("escalate: page in X", X, x.held(0, 6));
        check.same("escalate: first row given up", FREE, x.held(0, 18));
        check.same("escalate: last row given up", FREE, x.held(0, 21));
        check.same("escalate: another page's row stays", S, x.held(0, 22));
        check.same("escalate: table stays", IX, x.held(0, 2));
        check.same("escalate: how many are left", 8, x.locks(0));
        check.same("escalate: table with pages and a row", 3, x.escalate(0, 2));
        check.same("escalate: table in X", X, x.held(0, 2));
        check.same("escalate: pages given up", FREE, x.held(0, 6) + x.held(0, 7) + x.held(0, 22));
        check.same("escalate: another table's row stays", X, x.held(0, 14));
        check.same("escalate: database stays", IX, x.held(0, 0));
        check.same("escalate: how many are left then", 5, x.locks(0));
        check.same("escalate: still active", ACTIVE, x.state(0));

        for (int low : new int[] {IX, SIX, X}) {
            TieredLocks y = begun(1);
            take(y, 0, 0, IX, 1, IX, 5, low);
            check.same("escalate: one page in " + low, 1, y.escalate(0, 1));
            check.same("escalate: X over " + low, X, y.held(0, 1));
        }
    }

    private static void escalateReads() {
        TieredLocks x = begun(1);
        take(x, 0, 0, IS, 3, IS, 9, IS, 30, S, 33, S, 8, S);
        check.same("escalate: page read", 2, x.escalate(0, 9));
        check.same("escalate: page in S", S, x.held(0, 9));
        check.same("escalate: table read", 2, x.escalate(0, 3));
        check.same("escalate: table in S", S, x.held(0, 3));
        check.same("escalate: locks left", 2, x.locks(0));

        TieredLocks only = begun(1);
        take(only, 0, 0, IS, 3, IS, 9, IS);
        check.same("escalate: IS alone below", 1, only.escalate(0, 3));
        check.same("escalate: S for IS", S, only.held(0, 3));

        TieredLocks had = begun(1);
        take(had, 0, 0, IS, 1, IS, 4, IS, 1, S);
        check.same("escalate: S held on it already", 1, had.escalate(0, 1));
        check.same("escalate: S it stays", S, had.held(0, 1));
    }

    private static void escalateModeOfResourceItself() {
        for (int own : new int[] {IX, SIX, X}) {
            TieredLocks x = begun(1);
            take(x, 0, 0, IX, 1, IS, 4, S, 1, own);
            check.same("escalate: " + own + " on it, S below", 1, x.escalate(0, 1));
            check.same("escalate: X for " + own + " on it", X, x.held(0, 1));
        }
    }

    private static void escalateNothingBelow() {
        TieredLocks x = begun(2);
        check.same("escalate: holds nothing at all", 0, x.escalate(0, 1));
        check.same("escalate: still nothing", 0, x.locks(0));
        take(x, 0, 0, IX, 1, IX);
        check.same("escalate: nothing below the table", 0, x.escalate(0, 1));
        check.same("escalate: it stays IX", IX, x.held(0, 1));
        take(x, 0, 4, IX, 13, S);
        check.same("escalate: nothing below the next page", 0, x.escalate(0, 5));
        check.same("escalate: nothing below the next table", 0, x.escalate(0, 2));
        take(x, 1, 0, IX, 2, X);
        check.same("escalate: nothing below, though X stands against it", 0, x.escalate(0, 2));
        check.same("escalate: another one's locks below do not count", 0, x.escalate(1, 1));
    }

    private static void escalateRefused() {
        TieredLocks x = begun(2);
        take(x, 0, 0, IX, 1, IX, 4, IX, 10, X);
        take(x, 1, 0, IS, 1, IS);
        check.same("escalate: X does not go with IS", NONE, x.escalate(0, 1));
        check.same("escalate: refused, so IX stays", IX, x.held(0, 1));
        check.same("escalate: refused, so the row stays", X, x.held(0, 10));
        check.same("escalate: refused, so all stay", 4, x.locks(0));
        check.same("escalate: refused, so active", ACTIVE, x.state(0));
        check.same("escalate: the page is free to take", 1, x.escalate(0, 4));

        TieredLocks reads = begun(2);
        take(reads, 0, 0, IS, 1, IS, 4, IS, 10, S);
        take(reads, 1, 0, IX, 1, IX);
        check.same("escalate: S does not go with IX", NONE, reads.escalate(0, 1));
        reads.unlock(1, 1);
        take(reads, 1, 1, IS);
        check.same("escalate: S goes with IS", 2, reads.escalate(0, 1));
        check.same("escalate: S held", S, reads.held(0, 1));
    }

    private static void escalatePassesTheQueue() {
        TieredLocks x = begun(3);
        take(x, 0, 0, IX, 1, IX, 4, IX, 10, X);
        take(x, 1, 0, IX);
        check.same("escalate: another one waits for the table", WAITS, x.lock(1, 1, S));
        check.same("escalate: the queue is no hindrance", 2, x.escalate(0, 1));
        check.same("escalate: X held", X, x.held(0, 1));
        sameQueue("escalate: it waits on", x, 1, 1);
        x.unlock(0, 1);
        check.same("escalate: served at last", S, x.held(1, 1));
    }

    /** Who waits below holds on r what goes against the escalation, so none is ever served by one. */
    private static void escalateWithOthersWaitingBelow() {
        TieredLocks x = begun(3);
        for (int t = 0; t < 3; t++) {
            take(x, t, 0, IX, 1, IX, 4, IX);
        }
        take(x, 0, 10, S, 11, X);
        x.lock(1, 10, X);
        x.lock(2, 11, S);
        check.same("escalate: page held by those who wait", NONE, x.escalate(0, 4));
        check.same("escalate: table held by those who wait", NONE, x.escalate(0, 1));
        sameQueue("escalate: refused, so none is served", x, 10, 1);
        sameQueue("escalate: refused, so none is served", x, 11, 2);
        check.same("escalate: one of them ends", 0, x.end(1));
        check.same("escalate: the other one is enough", NONE, x.escalate(0, 4));
        check.same("escalate: the other one ends", 0, x.end(2));
        check.same("escalate: none is left", 3, x.escalate(0, 1));

        TieredLocks aside = begun(2);
        take(aside, 0, 0, IX, 1, IX, 4, IX, 10, X, 5, X);
        take(aside, 1, 0, IX, 1, IX);
        check.same("escalate: one waits for the page beside", WAITS, aside.lock(1, 5, S));
        check.same("escalate: this page alone", 1, aside.escalate(0, 4));
        check.same("escalate: it waits on", WAITING + 5, aside.state(1));
    }

    private static void escalateWrongInputs() {
        TieredLocks x = begun(2);
        for (int t : WRONG_TRANSACTIONS) {
            check.raises("escalate: transaction " + t, ARGUMENT, () -> x.escalate(t, 1));
        }
        for (int r : WRONG_RESOURCES) {
            check.raises("escalate: resource " + r, ARGUMENT, () -> x.escalate(0, r));
        }
        take(x, 0, 0, IX, 1, IX, 4, IX, 10, X);
        for (int r = 0; r < 34; r++) {
            int place = r;
            if (r == 0 || r >= 10) {
                check.raises("escalate: neither table nor page " + r, ARGUMENT, () -> x.escalate(0, place));
                check.raises("escalate: by an idle one, " + r, ARGUMENT, () -> x.escalate(5, place));
            } else {
                check.raises("escalate: idle one on " + r, STATE, () -> x.escalate(5, place));
            }
        }
        take(x, 1, 0, IX, 1, IX, 4, IX);
        x.lock(1, 10, X);
        check.raises("escalate: one that waits", STATE, () -> x.escalate(1, 1));
        check.same("escalate: nothing changed", 4, x.locks(0));
    }

    // ---- promise 6 ----

    private static void endServesAll() {
        TieredLocks x = begun(6);
        for (int t = 0; t < 6; t++) {
            take(x, t, 0, IX, 1, IX, 4, IX);
        }
        take(x, 0, 10, X, 11, X, 2, X);
        x.lock(1, 10, S);
        x.lock(2, 10, S);
        x.lock(3, 11, X);
        x.lock(4, 2, IS);
        x.lock(5, 11, S);
        check.same("end: how many became active", 4, x.end(0));
        check.same("end: idle", IDLE, x.state(0));
        check.same("end: holds nothing", 0, x.locks(0));
        check.same("end: first on the row", S, x.held(1, 10));
        check.same("end: second on the row", S, x.held(2, 10));
        check.same("end: on the next row", X, x.held(3, 11));
        check.same("end: on the table", IS, x.held(4, 2));
        sameQueue("end: one is left behind X", x, 11, 5);
        check.same("end: none waits for these", 0, x.end(1));
        check.same("end: begin takes the least again", 0, x.begin());
        check.same("end: with nothing held", FREE, x.held(0, 0));
    }

    private static void endOfOneThatWaits() {
        TieredLocks x = begun(5);
        take(x, 0, 0, S);
        x.lock(1, 0, S);
        x.lock(2, 0, IX);
        x.lock(3, 0, S);
        x.lock(4, 0, IS);
        sameQueue("end: two behind IX", x, 0, 2, 3, 4);
        check.same("end: those behind come in", 2, x.end(2));
        check.same("end: idle", IDLE, x.state(2));
        check.same("end: wants nothing", FREE, x.wanted(2));
        check.same("end: S served", S, x.held(3, 0));
        check.same("end: IS served", IS, x.held(4, 0));
        sameQueue("end: queue is empty", x, 0);

        TieredLocks mid = begun(4);
        take(mid, 0, 0, X);
        mid.lock(1, 0, IS);
        mid.lock(2, 0, X);
        mid.lock(3, 0, IS);
        check.same("end: from the middle", 0, mid.end(2));
        sameQueue("end: order stays", mid, 0, 1, 3);
        check.same("end: both at once", 2, mid.end(0));
    }

    private static void endOfOneThatWaitsAndHolds() {
        TieredLocks x = begun(3);
        take(x, 0, 0, IX, 1, X);
        take(x, 1, 0, IX, 2, X);
        take(x, 2, 0, IX);
        x.lock(1, 1, S);
        x.lock(2, 2, IX);
        check.same("end: of one that waits and holds", 1, x.end(1));
        sameQueue("end: it left the queue", x, 1);
        check.same("end: what it held is another one's", IX, x.held(2, 2));
        check.same("end: it holds nothing", 0, x.locks(1));

        TieredLocks up = begun(3);
        take(up, 0, 0, IS);
        take(up, 1, 0, IX);
        up.lock(0, 0, S);
        up.lock(2, 0, IX);
        check.same("end: of an upgrade that waits", 1, up.end(0));
        check.same("end: it holds nothing there", FREE, up.held(0, 0));
        check.same("end: the next one holds it", IX, up.held(2, 0));
    }

    private static void endWrongInputs() {
        TieredLocks x = begun(1);
        for (int t : WRONG_TRANSACTIONS) {
            check.raises("end: transaction " + t, ARGUMENT, () -> x.end(t));
        }
        check.raises("end: never begun", STATE, () -> x.end(1));
        check.same("end: with nothing held", 0, x.end(0));
        check.raises("end: twice", STATE, () -> x.end(0));
    }

    // ---- promises 7 to 13 ----

    private static void held() {
        TieredLocks x = begun(8);
        take(x, 7, 0, IX, 3, IX, 9, SIX, 33, X);
        check.same("held: IX", IX, x.held(7, 0));
        check.same("held: SIX", SIX, x.held(7, 9));
        check.same("held: X on the last row", X, x.held(7, 33));
        check.same("held: nothing", FREE, x.held(7, 32));
        check.same("held: by another one", FREE, x.held(6, 33));
        x.lock(0, 0, X);
        check.same("held: wanted is not held", FREE, x.held(0, 0));
        for (int t : WRONG_TRANSACTIONS) {
            check.same("held: transaction " + t, NONE, x.held(t, 0));
        }
        for (int r : WRONG_RESOURCES) {
            check.same("held: resource " + r, NONE, x.held(7, r));
            check.same("held: resource of the first one " + r, NONE, x.held(0, r));
        }
    }

    private static void state() {
        for (int r = 0; r < 34; r++) {
            TieredLocks x = begun(2);
            takeAllAbove(x, 0, r, IX);
            takeAllAbove(x, 1, r, IX);
            take(x, 0, r, X);
            check.same("state: X is held on " + r, WAITS, x.lock(1, r, S));
            check.same("state: waits for " + r, WAITING + r, x.state(1));
            check.same("state: active", ACTIVE, x.state(0));
            check.same("state: idle", IDLE, x.state(2));
            x.unlock(0, r);
            check.same("state: served", ACTIVE, x.state(1));
        }
        for (int t : WRONG_TRANSACTIONS) {
            check.same("state: transaction " + t, NONE, new TieredLocks().state(t));
        }
    }

    private static void wanted() {
        TieredLocks x = begun(4);
        take(x, 0, 0, IX);
        take(x, 1, 0, IX);
        x.lock(0, 0, S);
        check.same("wanted: the join, not the mode asked", SIX, x.wanted(0));
        x.lock(2, 0, S);
        check.same("wanted: the mode asked", S, x.wanted(2));
        check.same("wanted: active one", FREE, x.wanted(1));
        check.same("wanted: idle one", FREE, x.wanted(5));
        x.end(1);
        check.same("wanted: served", FREE, x.wanted(0));
        x.end(2);
        check.same("wanted: ended", FREE, x.wanted(2));
        for (int t : WRONG_TRANSACTIONS) {
            check.same("wanted: transaction " + t, NONE, x.wanted(t));
        }
    }

    private static void queue() {
        TieredLocks x = begun(8);
        take(x, 3, 0, X);
        int[] order = {7, 0, 5, 1};
        for (int t : order) {
            x.lock(t, 0, S);
        }
        sameQueue("queue: in their order", x, 0, order);
        for (int k : new int[] {-1, 4, 8, Integer.MIN_VALUE, Integer.MAX_VALUE}) {
            check.same("queue: place " + k, NONE, x.queue(0, k));
        }
        sameQueue("queue: of another resource", x, 1);
        for (int r : WRONG_RESOURCES) {
            check.same("queue: resource " + r, NONE, x.queue(r, 0));
        }
        x.end(0);
        sameQueue("queue: the others close up", x, 0, 7, 5, 1);
        x.end(7);
        sameQueue("queue: the first one left", x, 0, 5, 1);

        TieredLocks last = begun(3);
        for (int t = 0; t < 3; t++) {
            take(last, t, 0, IX, 3, IX, 9, IX);
        }
        take(last, 1, 33, X);
        last.lock(2, 33, S);
        last.lock(0, 33, X);
        sameQueue("queue: of the last row", last, 33, 2, 0);
    }

    private static void waitsFor() {
        TieredLocks x = begun(8);
        take(x, 0, 0, IS);
        take(x, 1, 0, IX);
        take(x, 2, 0, IX);
        check.same("waitsFor: not waiting", 0, x.waitsFor(0));
        x.lock(7, 0, S);
        check.same("waitsFor: the holders that do not go with S", 2 + 4, x.waitsFor(7));
        x.lock(6, 0, IX);
        check.same("waitsFor: the one before, and no holder", 128, x.waitsFor(6));
        x.lock(5, 0, X);
        check.same("waitsFor: holders and those before", 1 + 2 + 4 + 128 + 64, x.waitsFor(5));
        x.lock(2, 0, S);
        check.same("waitsFor: an upgrade, not for itself", 2, x.waitsFor(2));
        check.same("waitsFor: a holder that stands before counts once", 2 + 4, x.waitsFor(7));
        check.same("waitsFor: the upgrade stands before", 128 + 4, x.waitsFor(6));
        check.same("waitsFor: idle one", 0, begun(0).waitsFor(0));
        for (int t : WRONG_TRANSACTIONS) {
            check.same("waitsFor: transaction " + t, NONE, x.waitsFor(t));
        }
    }

    private static void access() {
        int[] rights = {0, 0, 0, 1, 1, 2};
        int[] path = {0, 3, 8, 29};
        for (int level = 0; level < 3; level++) {
            for (int mode = IS; mode <= X; mode++) {
                TieredLocks x = begun(2);
                takeAllAbove(x, 0, path[level], IX);
                take(x, 0, path[level], mode);
                check.same("access: mode " + mode + " on " + path[level], rights[mode], x.access(0, 29));
                check.same("access: another one", 0, x.access(1, 29));
                check.same("access: first row", level == 0 ? rights[mode] : 0, x.access(0, 10));
                check.same("access: next page", level < 2 ? rights[mode] : 0, x.access(0, 30));
            }
        }
        TieredLocks row = begun(1);
        take(row, 0, 0, IX, 3, IX, 8, IX, 29, S);
        check.same("access: S on the row", 1, row.access(0, 29));
        check.same("access: the row beside it", 0, row.access(0, 28));
        take(row, 0, 29, X);
        check.same("access: X on the row", 2, row.access(0, 29));
        take(row, 0, 0, SIX);
        check.same("access: X on the row, SIX far above", 2, row.access(0, 29));
        check.same("access: SIX far above", 1, row.access(0, 28));

        TieredLocks waits = begun(2);
        take(waits, 0, 0, X);
        waits.lock(1, 0, X);
        check.same("access: wanted is no right", 0, waits.access(1, 33));
        check.same("access: idle one", 0, waits.access(5, 33));
        for (int r = 0; r < 10; r++) {
            check.same("access: no row " + r, NONE, waits.access(0, r));
        }
        for (int r : WRONG_RESOURCES) {
            check.same("access: resource " + r, NONE, waits.access(0, r));
        }
        for (int t : WRONG_TRANSACTIONS) {
            check.same("access: transaction " + t, NONE, waits.access(t, 10));
        }
    }

    private static void locks() {
        TieredLocks x = begun(2);
        for (int r = 0; r < 34; r++) {
            check.same("locks: so far", r, x.locks(0));
            take(x, 0, r, r < 10 ? IX : X);
        }
        check.same("locks: all of them", 34, x.locks(0));
        check.same("locks: of another one", 0, x.locks(1));
        x.lock(1, 0, X);
        check.same("locks: one that waits", 0, x.locks(1));
        x.unlock(0, 33);
        check.same("locks: one given up", 33, x.locks(0));
        x.end(0);
        check.same("locks: ended", 0, x.locks(0));
        check.same("locks: served", 1, x.locks(1));
        for (int t : WRONG_TRANSACTIONS) {
            check.same("locks: transaction " + t, NONE, x.locks(t));
        }
    }
}
