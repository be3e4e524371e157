/** The document's Terms, sentence by sentence: a test of its own for each sentence that names a boundary case. */
public final class TermsBoundaryTests extends LockTest {
    private static final Twins twins = new Twins(check);

    public static void main(String[] args) {
        resourcesFrom0To33();
        parents();
        databaseHasNoParent();
        above();
        below();
        modesThatGoTogether();
        noneGoesWithAll();
        joins();
        covers();
        transactionsFrom0To7();
        holdsNothingAtFirst();
        holderOfWhatIsNotNone();
        eachResourceHasItsQueue();
        upgradeIfItHoldsSomethingThere();
        coveredByX();
        coveredByReading();
        coveredOnlyFromAbove();
        coveredBeforeKept();
        keptIfNothingIsNew();
        grantedBesideEveryOther();
        grantedUpgradeOrEmptyQueue();
        grantedAfterTheQueueIsEmptyAgain();
        grantedThenHeld();
        waitsUpgradeBehindUpgrades();
        waitsOtherAtTheEnd();
        waitsForHoldersThatDoNotFit();
        waitsForThoseBefore();
        waitsForNobodyElse();
        circleOfTwo();
        circleOfThree();
        circleOfEight();
        circleThroughThoseBefore();
        circleThroughNewPlace();
        circleNeverOfOne();
        noCircleIfTheChainEnds();
        serveAnEmptyQueue();
        serveStopsAtTheFirst();
        serveAsLongAsItFits();
        serveCountsThoseJustServed();
        serveLeavesOutTheOwnHold();
        serveThatResourceAlone();
        exceptionsInTheirOrder();
        throwingChangesNothing();
        fiveHundredTwelveCalls();
        check.finish();
    }

    // ---- resources ----

    /** "RESOURCES are 0 .. 33" */
    private static void resourcesFrom0To33() {
        for (int r = 0; r < 34; r++) {
            TieredLocks x = begun(1);
            takeAllAbove(x, 0, r, IX);
            take(x, 0, r, X);
            check.same("resource " + r, X, x.held(0, r));
        }
        for (int r : WRONG_RESOURCES) {
            TieredLocks x = begun(1);
            take(x, 0, 0, X);
            check.raises("no resource " + r, ARGUMENT, () -> x.lock(0, r, S));
            check.same("no resource " + r, NONE, x.held(0, r));
        }
    }

    /** "1 .. 3 are TABLES, whose PARENT is 0; 4 .. 9 are PAGES, the parent .. 1 + (p - 4) / 2; 10 .. 33 are ROWS .." */
    private static void parents() {
        for (int r = 1; r < 34; r++) {
            for (int p = 0; p < 34; p++) {
                TieredLocks x = begun(1);
                int low = r;
                takeAllAbove(x, 0, p, IS);
                x.lock(0, p, p < 10 ? IS : S);
                boolean held = p == PARENT[r] || isAbove(PARENT[r], p);
                if (held) {
                    check.isTrue(r + " under " + p, x.lock(0, r, S) != WAITS);
                } else {
                    check.raises(r + " is not under " + p, UNSUPPORTED, () -> x.lock(0, low, S));
                }
            }
        }
    }

    /** "0 is the DATABASE" */
    private static void databaseHasNoParent() {
        for (int mode = IS; mode <= X; mode++) {
            check.same("database in mode " + mode + " with nothing held", GRANTED, begun(1).lock(0, 0, mode));
        }
    }

    /** "ABOVE a resource are its parent, its parent's parent, and so on" */
    private static void above() {
        for (int high = 0; high < 34; high++) {
            for (int r = 0; r < 34; r++) {
                if (high == r) {
                    continue;
                }
                TieredLocks x = begun(1);
                takeAllAbove(x, 0, r, IX);
                takeAllAbove(x, 0, high, IX);
                x.lock(0, high, X);
                int due = isAbove(high, r) ? COVERED : GRANTED;
                check.same(r + " with X on " + high, due, x.lock(0, r, S));
            }
        }
    }

    /** "BELOW it are all that it is above." */
    private static void below() {
        for (int r = 1; r < 10; r++) {
            for (int low = 0; low < 34; low++) {
                TieredLocks x = begun(1);
                takeAllAbove(x, 0, low, IS);
                x.lock(0, low, S);
                int due = 0;
                for (int any = 0; any < 34; any++) {
                    due += isAbove(r, any) && (any == low || isAbove(any, low)) ? 1 : 0;
                }
                check.same("locks of " + low + " and above it that are below " + r, due, x.escalate(0, r));
            }
        }
    }

    // ---- modes ----

    /** "TWO MODES GO TOGETHER: NONE with all; IS with IS, IX, S, SIX; IX with IS, IX; S with IS, S; SIX with IS; X .." */
    private static void modesThatGoTogether() {
        for (int one = IS; one <= X; one++) {
            for (int other = IS; other <= X; other++) {
                TieredLocks x = begun(2);
                take(x, 1, 0, one);
                check.same(other + " beside " + one, together(one, other) ? GRANTED : WAITS, x.lock(0, 0, other));
            }
        }
        int[] ofRow = {S, X};
        for (int one : ofRow) {
            for (int other : ofRow) {
                TieredLocks x = begun(2);
                take(x, 0, 0, IX, 3, IX, 9, IX, 33, one);
                take(x, 1, 0, IX, 3, IX, 9, IX);
                check.same(other + " beside " + one + " on a row", one == S && other == S ? GRANTED : WAITS,
                    x.lock(1, 33, other));
            }
        }
    }

    /** "NONE with all" */
    private static void noneGoesWithAll() {
        for (int mode = IS; mode <= X; mode++) {
            TieredLocks x = begun(8);
            take(x, 3, 0, mode);
            x.unlock(3, 0);
            take(x, 5, 0, X);
            check.same("X beside seven that hold nothing", X, x.held(5, 0));
        }
    }

    /** "The JOIN of two modes: of a mode and itself, or NONE, the mode; of IS and another one, that one; .." */
    private static void joins() {
        for (int had = FREE; had <= X; had++) {
            for (int asked = IS; asked <= X; asked++) {
                TieredLocks x = begun(1);
                if (had != FREE) {
                    take(x, 0, 0, had);
                }
                x.lock(0, 0, asked);
                check.same("join of " + had + " and " + asked, JOIN[had][asked], x.held(0, 0));
            }
        }
    }

    /** "A mode COVERS another one if their join is itself." */
    private static void covers() {
        for (int had : MODES) {
            for (int asked = IS; asked <= X; asked++) {
                TieredLocks x = begun(1);
                if (had != FREE) {
                    take(x, 0, 0, had);
                }
                int mode = asked;
                int needed = mode == IS || mode == S ? IS : IX;
                if (JOIN[had][needed] == had) {
                    check.isTrue(asked + " below " + had, x.lock(0, 1, asked) != WAITS);
                } else {
                    check.raises(asked + " below " + had, UNSUPPORTED, () -> x.lock(0, 1, mode));
                }
            }
        }
    }

    // ---- transactions ----

    /** "TRANSACTIONS are 0 .. 7, each IDLE (at first)" */
    private static void transactionsFrom0To7() {
        TieredLocks x = new TieredLocks();
        for (int t = 0; t < 8; t++) {
            int idle = t;
            check.same("transaction " + t, IDLE, x.state(t));
            check.raises("transaction " + t + " is idle", STATE, () -> x.lock(idle, 0, IS));
        }
        for (int t : WRONG_TRANSACTIONS) {
            check.same("no transaction " + t, NONE, x.state(t));
            check.raises("no transaction " + t, ARGUMENT, () -> x.lock(t, 0, IS));
        }
    }

    /** "A transaction HOLDS a mode on each resource (at first NONE)" */
    private static void holdsNothingAtFirst() {
        TieredLocks held = begun(8);
        for (int t = 0; t < 8; t++) {
            for (int r = 0; r < 34; r++) {
                check.same("at first " + t + " on " + r, FREE, held.held(t, r));
            }
        }
        TieredLocks given = begun(8);
        for (int t = 0; t < 8; t++) {
            for (int r = 0; r < 34; r++) {
                int one = t;
                int low = r;
                check.raises("nothing to give up", STATE, () -> given.unlock(one, low));
            }
        }
    }

    /** "if that is not NONE it is a holder of it" */
    private static void holderOfWhatIsNotNone() {
        for (int mode = IS; mode <= X; mode++) {
            TieredLocks x = begun(1);
            take(x, 0, 0, mode);
            check.same("a lock in mode " + mode, 1, x.locks(0));
            x.unlock(0, 0);
            check.same("given up", 0, x.locks(0));
        }
    }

    /** "Each resource has a QUEUE of transactions that wait for it, each for a WANTED mode." */
    private static void eachResourceHasItsQueue() {
        for (int r = 0; r < 34; r++) {
            TieredLocks x = begun(3);
            for (int t = 0; t < 3; t++) {
                takeAllAbove(x, t, r, IX);
            }
            take(x, 2, r, X);
            await(x, 1, r, X);
            await(x, 0, r, S);
            for (int other = 0; other < 34; other++) {
                if (other == r) {
                    sameQueue("of " + r, x, other, 1, 0);
                } else {
                    sameQueue("none waits for " + other, x, other);
                }
            }
            check.same("wanted first on " + r, X, x.wanted(1));
            check.same("wanted next on " + r, S, x.wanted(0));
        }
    }

    /** "A request is an UPGRADE if its transaction holds something on the resource." */
    private static void upgradeIfItHoldsSomethingThere() {
        for (int had : new int[] {IS, IX, S, SIX}) {
            TieredLocks x = begun(3);
            take(x, 0, 0, had);
            await(x, 1, 0, X);
            take(x, 0, 0, X);
            check.same("an upgrade from " + had + " passes the queue", X, x.held(0, 0));
        }
        TieredLocks parent = begun(3);
        take(parent, 0, 0, IX);
        take(parent, 1, 0, IX, 1, S);
        take(parent, 2, 0, IX);
        await(parent, 2, 1, IX);
        check.same("to hold the parent is no upgrade", WAITS, parent.lock(0, 1, IS));
        sameQueue("to hold the parent is no upgrade", parent, 1, 2, 0);

        TieredLocks child = begun(3);
        take(child, 0, 0, IS);
        take(child, 1, 0, IS);
        await(child, 2, 0, X);
        child.unlock(0, 0);
        check.same("what was given up makes no upgrade", WAITS, child.lock(0, 0, IS));
        sameQueue("what was given up makes no upgrade", child, 0, 2, 0);
    }

    // ---- what comes of a request ----

    private static final int[] PATH = {0, 1, 4, 10};

    /** Transaction 0 holds all above row 10 in one mode, and then one of these in another. */
    private static TieredLocks path(int all, int level, int mode) {
        TieredLocks x = begun(1);
        take(x, 0, 0, all, 1, all, 4, all);
        x.lock(0, PATH[level], mode);
        return x;
    }

    /** "if some resource above r is held by t in X .. it is COVERED, and nothing happens" */
    private static void coveredByX() {
        for (int level = 0; level < 3; level++) {
            for (int low = level + 1; low < 4; low++) {
                for (int mode = IS; mode <= X; mode++) {
                    if (low == 3 && mode != S && mode != X) {
                        continue;
                    }
                    int high = level;
                    int r = PATH[low];
                    int asked = mode;
                    twins.unchanged("mode " + mode + " on " + r + " under X on " + PATH[level], COVERED,
                        () -> path(IX, high, X), x -> x.lock(0, r, asked));
                }
            }
        }
    }

    /** "or in S or SIX while m is IS or S: it is COVERED, and nothing happens" */
    private static void coveredByReading() {
        for (int level = 0; level < 3; level++) {
            int high = level;
            for (int low = level + 1; low < 4; low++) {
                int r = PATH[low];
                twins.unchanged("S on " + r + " under S on " + PATH[level], COVERED,
                    () -> path(IS, high, S), x -> x.lock(0, r, S));
                twins.unchanged("S on " + r + " under SIX on " + PATH[level], COVERED,
                    () -> path(IX, high, SIX), x -> x.lock(0, r, S));
                check.same("X on " + r + " under SIX on " + PATH[level], GRANTED, path(IX, high, SIX).lock(0, r, X));
                check.same("S on " + r + " under IX on " + PATH[level], GRANTED, path(IX, high, IX).lock(0, r, S));
                check.same("S on " + r + " under IS on " + PATH[level], GRANTED, path(IS, high, IS).lock(0, r, S));
            }
        }
        for (int mode : new int[] {IX, SIX, X}) {
            TieredLocks x = begun(1);
            take(x, 0, 0, SIX);
            check.same("mode " + mode + " under SIX", GRANTED, x.lock(0, 1, mode));
        }
        for (int above : new int[] {S, SIX}) {
            TieredLocks x = begun(1);
            take(x, 0, 0, above);
            check.same("IS under " + above, COVERED, x.lock(0, 1, IS));
            check.same("IS under " + above + " is not held", FREE, x.held(0, 1));
        }
    }

    /** "some resource above r is held by t": neither r itself, nor one below or beside it, nor by another one */
    private static void coveredOnlyFromAbove() {
        TieredLocks itself = begun(1);
        take(itself, 0, 0, IX, 1, X);
        check.same("X on the table itself", KEPT, itself.lock(0, 1, S));

        TieredLocks below = begun(1);
        take(below, 0, 0, IX, 1, IX, 4, X);
        check.same("X below the table", GRANTED, below.lock(0, 1, S));
        check.same("X below the table", SIX, below.held(0, 1));

        TieredLocks beside = begun(1);
        take(beside, 0, 0, IX, 1, IX, 4, X, 5, IX);
        check.same("X on the page beside", GRANTED, beside.lock(0, 14, S));

        TieredLocks other = begun(2);
        take(other, 0, 0, IS);
        take(other, 1, 0, S);
        check.same("another one's S above", GRANTED, other.lock(0, 1, IS));
    }

    /** "it is COVERED .. Otherwise WANTED is the join": what is held as well as covered is COVERED */
    private static void coveredBeforeKept() {
        for (int above : new int[] {S, SIX, X}) {
            twins.unchanged("S held on the table, then " + above + " on the database", COVERED, () -> {
                TieredLocks x = begun(1);
                take(x, 0, 0, IS, 1, S, 0, above);
                return x;
            }, x -> x.lock(0, 1, S));
        }
    }

    /** "if that is what it holds, nothing happens: KEPT" */
    private static void keptIfNothingIsNew() {
        for (int had = IS; had <= X; had++) {
            for (int asked = IS; asked <= X; asked++) {
                int first = had;
                int second = asked;
                if (JOIN[had][asked] == had) {
                    twins.unchanged(asked + " asked while " + had + " is held and two wait", KEPT,
                        () -> heldWhileTwoWait(first), x -> x.lock(0, 0, second));
                }
            }
        }
    }

    private static TieredLocks heldWhileTwoWait(int mode) {
        TieredLocks x = begun(3);
        take(x, 0, 0, mode);
        await(x, 1, 0, X);
        await(x, 2, 0, IS);
        return x;
    }

    /** "it can be GRANTED at once, if wanted goes together with what every other transaction holds on r" */
    private static void grantedBesideEveryOther() {
        for (int holder = 0; holder < 8; holder++) {
            for (int asking = 0; asking < 8; asking++) {
                if (holder != asking) {
                    TieredLocks x = begun(8);
                    take(x, holder, 0, S);
                    check.same(asking + " asks for IX beside the S of " + holder, WAITS, x.lock(asking, 0, IX));
                    TieredLocks y = begun(8);
                    take(y, holder, 0, S);
                    check.same(asking + " asks for S beside the S of " + holder, GRANTED, y.lock(asking, 0, S));
                }
            }
        }
        TieredLocks own = begun(2);
        take(own, 0, 0, S);
        check.same("its own S is not another one's", GRANTED, own.lock(0, 0, X));

        TieredLocks elsewhere = begun(2);
        take(elsewhere, 0, 0, IX, 1, X);
        take(elsewhere, 1, 0, IX);
        check.same("X on another resource does not matter", GRANTED, elsewhere.lock(1, 2, X));

        TieredLocks all = begun(8);
        for (int t = 0; t < 8; t++) {
            check.same("eight of them hold IX", GRANTED, all.lock(t, 0, IX));
        }
        check.same("one of eight asks for S as well", WAITS, all.lock(4, 0, S));
        check.same("it would have to pass the seven others", 255 - 16, all.waitsFor(4));
    }

    /** "and (it is an upgrade or the queue of r is empty)" */
    private static void grantedUpgradeOrEmptyQueue() {
        TieredLocks x = begun(5);
        take(x, 0, 0, IS);
        take(x, 1, 0, IS);
        check.same("no upgrade, empty queue, fits", GRANTED, x.lock(2, 0, IS));
        await(x, 3, 0, X);
        check.same("upgrade, one in the queue, fits", GRANTED, x.lock(0, 0, IX));
        check.same("upgrade, one in the queue, does not fit", WAITS, x.lock(1, 0, S));
        check.same("no upgrade, two in the queue, fits", WAITS, x.lock(4, 0, IS));
        sameQueue("in their order", x, 0, 1, 3, 4);

        TieredLocks other = begun(3);
        take(other, 0, 0, IX, 1, X);
        take(other, 1, 0, IX);
        take(other, 2, 0, IX);
        await(other, 1, 1, S);
        check.same("the queue of another resource does not matter", GRANTED, other.lock(2, 2, S));
    }

    private static void grantedAfterTheQueueIsEmptyAgain() {
        TieredLocks left = begun(3);
        take(left, 0, 0, S);
        await(left, 1, 0, IX);
        left.end(1);
        check.same("the one that waited has ended", GRANTED, left.lock(2, 0, S));

        TieredLocks served = begun(3);
        take(served, 0, 0, X);
        await(served, 1, 0, IS);
        served.unlock(0, 0);
        check.same("the one that waited was served", GRANTED, served.lock(2, 0, S));

        TieredLocks refused = begun(3);
        take(refused, 0, 0, S);
        take(refused, 1, 0, S);
        await(refused, 0, 0, X);
        check.same("a second upgrade", DEADLOCK, refused.lock(1, 0, X));
        refused.end(0);
        check.same("a deadlock leaves nobody in the queue", GRANTED, refused.lock(2, 0, S));
    }

    /** "then t holds it" */
    private static void grantedThenHeld() {
        twins.changed("the first lock", GRANTED, () -> begun(2), x -> x.lock(1, 0, IX), "held(1, 0)=2", "locks(1)=1");
        twins.changed("an upgrade to the join", GRANTED, () -> {
            TieredLocks x = begun(2);
            take(x, 1, 0, IX);
            return x;
        }, x -> x.lock(1, 0, S), onRows(1, 10, 33, 1, "held(1, 0)=4"));
    }

    /** Holders of IS are 0, 1 and 2; 3 holds IX, so that S has to wait for it. */
    private static TieredLocks threeMayUpgrade() {
        TieredLocks x = begun(7);
        take(x, 0, 0, IS);
        take(x, 1, 0, IS);
        take(x, 2, 0, IS);
        take(x, 3, 0, IX);
        return x;
    }

    /** "an upgrade stands in the queue behind all other upgrades and before the others" */
    private static void waitsUpgradeBehindUpgrades() {
        TieredLocks empty = threeMayUpgrade();
        await(empty, 2, 0, S);
        sameQueue("an upgrade in an empty queue", empty, 0, 2);
        await(empty, 0, 0, S);
        sameQueue("behind one upgrade", empty, 0, 2, 0);
        await(empty, 1, 0, S);
        sameQueue("behind two upgrades", empty, 0, 2, 0, 1);

        TieredLocks others = threeMayUpgrade();
        await(others, 6, 0, X);
        await(others, 4, 0, IS);
        await(others, 1, 0, S);
        sameQueue("before two others", others, 0, 1, 6, 4);
        await(others, 5, 0, IX);
        await(others, 0, 0, SIX);
        sameQueue("between upgrades and others", others, 0, 1, 0, 6, 4, 5);
        await(others, 2, 0, S);
        sameQueue("again between them", others, 0, 1, 0, 2, 6, 4, 5);

        twins.changed("an upgrade before the others", WAITS, () -> {
            TieredLocks x = threeMayUpgrade();
            await(x, 6, 0, X);
            await(x, 5, 0, IX);
            await(x, 1, 0, S);
            return x;
        }, x -> x.lock(2, 0, S), "state(2)=2", "wanted(2)=3", "waitsFor(2)=10", "waitsFor(5)=70",
            "queue(0, 1)=2", "queue(0, 2)=6", "queue(0, 3)=5");
    }

    /** "any other one at the end" */
    private static void waitsOtherAtTheEnd() {
        TieredLocks x = threeMayUpgrade();
        await(x, 5, 0, X);
        sameQueue("in an empty queue", x, 0, 5);
        await(x, 0, 0, S);
        await(x, 4, 0, IX);
        sameQueue("behind an upgrade and another one", x, 0, 0, 5, 4);

        TieredLocks upgrade = threeMayUpgrade();
        await(upgrade, 1, 0, S);
        await(upgrade, 6, 0, IS);
        sameQueue("behind an upgrade alone", upgrade, 0, 1, 6);

        TieredLocks seven = begun(8);
        take(seven, 4, 0, X);
        int[] order = {7, 0, 6, 1, 5, 2, 3};
        for (int t : order) {
            await(seven, t, 0, IS);
        }
        sameQueue("the longest queue", seven, 0, order);
    }

    // ---- waits for ----

    /** "u is another one that holds on that resource what does not go together with what t wants" */
    private static void waitsForHoldersThatDoNotFit() {
        for (int wish = IS; wish <= X; wish++) {
            for (int mode = IS; mode <= X; mode++) {
                TieredLocks x = begun(4);
                // A second holder, in IS, goes with all but X; it is left out where the first one holds X.
                take(x, 1, 0, mode);
                if (mode != X) {
                    take(x, 2, 0, IS);
                }
                x.lock(0, 0, wish);
                int due = together(wish, mode) && wish != X ? 0 : 2 + (wish == X && mode != X ? 4 : 0);
                check.same(wish + " wanted beside " + mode, due, x.waitsFor(0));
            }
        }
        TieredLocks join = begun(3);
        take(join, 0, 0, IX);
        take(join, 1, 0, IX);
        await(join, 0, 0, S);
        check.same("it is the join that counts, not S alone", 2, join.waitsFor(0));
        TieredLocks joined = begun(3);
        take(joined, 0, 0, S);
        take(joined, 1, 0, S);
        await(joined, 0, 0, IX);
        check.same("it is the join that counts, not IX alone", 2, joined.waitsFor(0));
    }

    /** "or stands before t in that queue" */
    private static void waitsForThoseBefore() {
        TieredLocks x = begun(8);
        take(x, 0, 0, S);
        await(x, 3, 0, IX);
        await(x, 7, 0, S);
        await(x, 1, 0, IS);
        check.same("behind none, beside S", 1, x.waitsFor(3));
        check.same("S goes with S, but stands behind IX", 8, x.waitsFor(7));
        check.same("IS goes with all of these, but stands behind them", 8 + 128, x.waitsFor(1));

        TieredLocks upgrade = threeMayUpgrade();
        await(upgrade, 4, 0, X);
        check.same("before the upgrade came", 1 + 2 + 4 + 8, upgrade.waitsFor(4));
        await(upgrade, 5, 0, IX);
        check.same("before the upgrade came", 16, upgrade.waitsFor(5));
        await(upgrade, 1, 0, S);
        check.same("it stands before both", 16 + 2, upgrade.waitsFor(5));
        check.same("who holds and stands before counts once", 1 + 2 + 4 + 8, upgrade.waitsFor(4));
        check.same("an upgrade waits for the holder of IX alone", 8, upgrade.waitsFor(1));
    }

    /** Neither those behind, nor itself, nor who holds or waits elsewhere. */
    private static void waitsForNobodyElse() {
        TieredLocks x = begun(6);
        for (int t = 0; t < 6; t++) {
            take(x, t, 0, IX);
        }
        take(x, 0, 1, X);
        take(x, 1, 2, X);
        take(x, 2, 3, X);
        await(x, 3, 1, S);
        await(x, 4, 1, X);
        await(x, 5, 2, S);
        check.same("for the holder, not for the one behind", 1, x.waitsFor(3));
        check.same("for the holder and the one before", 1 + 8, x.waitsFor(4));
        check.same("for the holder of that resource alone", 2, x.waitsFor(5));
        check.same("an active one for none", 0, x.waitsFor(0));

        TieredLocks own = begun(2);
        take(own, 0, 0, S);
        take(own, 1, 0, IS);
        await(own, 0, 0, X);
        check.same("an upgrade not for itself", 2, own.waitsFor(0));
    }

    // ---- circles ----

    /** Each of these transactions holds a row of its own in X, and IX above all of them. */
    private static TieredLocks rowsOfTheirOwn(int transactions) {
        TieredLocks x = begun(transactions);
        for (int t = 0; t < transactions; t++) {
            take(x, t, 0, IX, 1, IX, 4, IX, 5, IX, 10 + t, X);
        }
        return x;
    }

    /** All but the last one wait for the row of the next one. */
    private static TieredLocks chain(int transactions) {
        TieredLocks x = rowsOfTheirOwn(transactions);
        for (int t = 0; t < transactions - 1; t++) {
            await(x, t, 11 + t, S);
        }
        return x;
    }

    /** "(a CIRCLE, of two or more), the request is a DEADLOCK, and nothing happens" */
    private static void circleOfTwo() {
        twins.unchanged("a circle of two by X", DEADLOCK, () -> chain(2), x -> x.lock(1, 10, X));
        twins.unchanged("a circle of two by S", DEADLOCK, () -> chain(2), x -> x.lock(1, 10, S));
        twins.unchanged("a circle of two upgrades", DEADLOCK, () -> {
            TieredLocks x = begun(4);
            take(x, 0, 0, S);
            take(x, 1, 0, S);
            await(x, 0, 0, X);
            await(x, 2, 0, IS);
            await(x, 3, 0, X);
            return x;
        }, x -> x.lock(1, 0, X));
    }

    private static void circleOfThree() {
        twins.unchanged("a circle of three", DEADLOCK, () -> chain(3), x -> x.lock(2, 10, S));
        twins.unchanged("a circle of two beside a third one", DEADLOCK, () -> chain(3), x -> x.lock(2, 11, S));
    }

    private static void circleOfEight() {
        for (int size = 4; size <= 8; size++) {
            int last = size - 1;
            int all = size;
            twins.unchanged("a circle of " + size, DEADLOCK, () -> chain(all), x -> x.lock(last, 10, X));
        }
        // In this order of numbers a search that goes through them once, upwards, finds nothing.
        twins.unchanged("a circle of eight, downwards", DEADLOCK, () -> {
            TieredLocks x = rowsOfTheirOwn(8);
            for (int t = 7; t > 0; t--) {
                await(x, t, 9 + t, S);
            }
            return x;
        }, x -> x.lock(0, 17, S));
    }

    /** "or stands before t in that queue": also in the midst of a circle */
    private static void circleThroughThoseBefore() {
        // 2 would wait for 1 alone, whose X stands before it; 1 waits for 0, and 0 for 2.
        twins.unchanged("by the own place", DEADLOCK, () -> {
            TieredLocks x = begun(3);
            take(x, 0, 0, IX, 1, S);
            take(x, 1, 0, IX);
            take(x, 2, 0, IX, 2, X);
            await(x, 1, 1, X);
            await(x, 0, 2, X);
            return x;
        }, x -> x.lock(2, 1, S));
        // 3 waits on row 10 for 1, whose place is before it, and 1 for 0.
        twins.unchanged("by another one's place", DEADLOCK, () -> {
            TieredLocks x = begun(4);
            for (int t = 0; t < 4; t++) {
                take(x, t, 0, IX, 1, IX, 4, IX);
            }
            take(x, 0, 10, S);
            take(x, 3, 11, X);
            await(x, 1, 10, X);
            await(x, 3, 10, S);
            return x;
        }, x -> x.lock(0, 11, S));
    }

    /** "If t, waiting so": who stands behind the place that t would have waits for t */
    private static void circleThroughNewPlace() {
        twins.unchanged("by its place in front", DEADLOCK, () -> {
            TieredLocks x = begun(4);
            take(x, 0, 0, IX, 1, IS);
            take(x, 1, 0, IX, 1, IS);
            take(x, 2, 0, IX, 1, S);
            take(x, 3, 0, IX, 2, X);
            await(x, 3, 1, IX);
            await(x, 1, 2, S);
            return x;
        }, x -> x.lock(0, 1, X));
    }

    private static void circleNeverOfOne() {
        TieredLocks x = begun(2);
        take(x, 0, 0, S);
        take(x, 1, 0, IS);
        check.same("its own S is against its X, but it does not wait for itself", WAITS, x.lock(0, 0, X));
        check.same("alone it does not wait at all", GRANTED, aloneInS().lock(0, 0, X));
    }

    private static TieredLocks aloneInS() {
        TieredLocks x = begun(1);
        take(x, 0, 0, S);
        return x;
    }

    /** "Otherwise it waits." */
    private static void noCircleIfTheChainEnds() {
        TieredLocks open = rowsOfTheirOwn(8);
        for (int t = 0; t < 7; t++) {
            check.same("a chain with an active one at its end", WAITS, open.lock(t, 11 + t, X));
        }

        TieredLocks two = rowsOfTheirOwn(4);
        check.same("two ways to the same one", WAITS, two.lock(1, 10, S));
        check.same("two ways to the same one", WAITS, two.lock(2, 10, S));
        check.same("two ways to the same one", WAITS, two.lock(3, 11, S));
        check.same("it does not wait", ACTIVE, two.state(0));

        twins.changed("what others wait for beside it does not matter", WAITS, () -> {
            TieredLocks x = rowsOfTheirOwn(4);
            await(x, 0, 11, S);
            return x;
        }, x -> x.lock(2, 13, X), "state(2)=15", "wanted(2)=5", "waitsFor(2)=8", "queue(13, 0)=2");
    }

    // ---- to serve ----

    private static void serveAnEmptyQueue() {
        twins.changed("nobody waits", 0, () -> {
            TieredLocks x = begun(2);
            take(x, 0, 0, IX);
            take(x, 1, 0, IX);
            return x;
        }, x -> unlocked(x, 0, 0), "held(0, 0)=0", "locks(0)=0");
    }

    /** "as long as what the first one in its queue wants goes together": who comes behind it has to wait */
    private static void serveStopsAtTheFirst() {
        twins.changed("the first one does not fit, though the next would", 0, () -> {
            TieredLocks x = begun(4);
            take(x, 0, 0, IS);
            take(x, 1, 0, IS);
            await(x, 2, 0, X);
            await(x, 3, 0, IS);
            return x;
        }, x -> unlocked(x, 0, 0), "held(0, 0)=0", "locks(0)=0", "waitsFor(2)=2");
        twins.changed("the second one does not fit, though the third would", 0, () -> {
            TieredLocks x = begun(4);
            take(x, 0, 0, X);
            await(x, 1, 0, IS);
            await(x, 2, 0, X);
            await(x, 3, 0, IS);
            return x;
        }, x -> unlocked(x, 0, 0), onRows(0, 10, 33, 0, "held(0, 0)=0", "locks(0)=0", "held(1, 0)=1", "locks(1)=1",
            "state(1)=1", "wanted(1)=0", "waitsFor(1)=0", "waitsFor(2)=2", "waitsFor(3)=4",
            "queue(0, 0)=2", "queue(0, 1)=3", "queue(0, 2)=-1"));
    }

    /** "that one holds it, leaves the queue, and is active" */
    private static void serveAsLongAsItFits() {
        TieredLocks x = begun(8);
        take(x, 3, 0, X);
        for (int t = 7; t >= 0; t--) {
            if (t != 3) {
                await(x, t, 0, t % 2 == 0 ? IX : IS);
            }
        }
        x.unlock(3, 0);
        for (int t = 0; t < 8; t++) {
            check.same("served: state of " + t, ACTIVE, x.state(t));
            check.same("served: wanted by " + t, FREE, x.wanted(t));
            check.same("served: held by " + t, t == 3 ? FREE : t % 2 == 0 ? IX : IS, x.held(t, 0));
            check.same("served: waitsFor of " + t, 0, x.waitsFor(t));
        }
        sameQueue("all seven are served", x, 0);
    }

    /** "goes together with what every other one holds": also with what one served a moment before holds */
    private static void serveCountsThoseJustServed() {
        for (int first = IS; first <= X; first++) {
            for (int second = IS; second <= X; second++) {
                TieredLocks x = begun(3);
                take(x, 0, 0, X);
                await(x, 2, 0, first);
                await(x, 1, 0, second);
                x.unlock(0, 0);
                check.same(first + " is served", first, x.held(2, 0));
                check.same(second + " behind " + first, together(first, second) ? second : FREE, x.held(1, 0));
                check.same(second + " behind " + first, together(first, second) ? ACTIVE : WAITING, x.state(1));
            }
        }
    }

    /** "every other one": what the first one itself holds does not count; and it gets the join */
    private static void serveLeavesOutTheOwnHold() {
        TieredLocks x = begun(3);
        take(x, 0, 0, S);
        take(x, 1, 0, S);
        await(x, 0, 0, IX);
        await(x, 2, 0, IS);
        x.unlock(1, 0);
        check.same("S and IX are SIX", SIX, x.held(0, 0));
        check.same("IS goes with it", IS, x.held(2, 0));

        TieredLocks two = threeMayUpgrade();
        await(two, 0, 0, S);
        await(two, 1, 0, SIX);
        two.unlock(3, 0);
        check.same("the first upgrade", S, two.held(0, 0));
        check.same("the second one is against it", IS, two.held(1, 0));
        sameQueue("the second one waits on", two, 0, 1);
        two.unlock(0, 0);
        check.same("the second upgrade", SIX, two.held(1, 0));
    }

    private static void serveThatResourceAlone() {
        TieredLocks x = rowsOfTheirOwn(4);
        await(x, 2, 10, X);
        await(x, 3, 11, X);
        x.unlock(0, 10);
        check.same("row 10 is served", X, x.held(2, 10));
        check.same("row 11 is not", WAITING + 11, x.state(3));
    }

    // ---- exceptions, and the number of calls ----

    /** "Of several exceptions the first one of a heading is thrown" */
    private static void exceptionsInTheirOrder() {
        TieredLocks x = begun(2);
        take(x, 0, 0, IX, 1, X);
        take(x, 1, 0, IS);
        await(x, 1, 1, S);
        check.raises("lock: mode and idle and no parent", ARGUMENT, () -> x.lock(7, 4, 0));
        check.raises("lock: mode and waiting and too weak a parent", ARGUMENT, () -> x.lock(1, 2, 6));
        check.raises("lock: row and waiting and no parent", ARGUMENT, () -> x.lock(1, 10, IX));
        check.raises("lock: mode and no parent", ARGUMENT, () -> x.lock(0, 14, 0));
        check.raises("lock: row and no parent", ARGUMENT, () -> x.lock(0, 14, SIX));
        check.raises("lock: idle and no parent", STATE, () -> x.lock(7, 4, S));
        check.raises("lock: waiting and no parent", STATE, () -> x.lock(1, 4, S));
        check.raises("lock: waiting and too weak a parent", STATE, () -> x.lock(1, 2, IX));
        check.raises("unlock: resource and idle", ARGUMENT, () -> x.unlock(7, 34));
        check.raises("unlock: resource and waiting", ARGUMENT, () -> x.unlock(1, -1));
        check.raises("escalate: resource and idle", ARGUMENT, () -> x.escalate(7, 0));
        check.raises("escalate: resource and waiting", ARGUMENT, () -> x.escalate(1, 10));

        TieredLocks y = begun(2);
        take(y, 0, 0, IX, 1, IX, 4, IX, 10, X);
        take(y, 1, 0, IX, 1, IX, 4, IX);
        await(y, 1, 10, S);
        check.raises("unlock: waiting and a child", STATE, () -> y.unlock(1, 1));
        check.raises("unlock: waiting and a child", STATE, () -> y.unlock(1, 0));
    }

    /** "a call that throws changes nothing" */
    private static void throwingChangesNothing() {
        twins.refused("lock: argument", ARGUMENT, LockTest::busy, x -> x.lock(0, 10, IX));
        twins.refused("lock: state", STATE, LockTest::busy, x -> x.lock(1, 0, S));
        twins.refused("lock: unsupported", UNSUPPORTED, LockTest::busy, x -> x.lock(2, 10, X));
        twins.refused("unlock: argument", ARGUMENT, LockTest::busy, x -> x.unlock(0, 34));
        twins.refused("unlock: state", STATE, LockTest::busy, x -> x.unlock(1, 4));
        twins.refused("unlock: unsupported", UNSUPPORTED, LockTest::busy, x -> x.unlock(0, 4));
        twins.refused("escalate: argument", ARGUMENT, LockTest::busy, x -> x.escalate(0, 0));
        twins.refused("escalate: state", STATE, LockTest::busy, x -> x.escalate(1, 1));
        twins.refused("end: argument", ARGUMENT, LockTest::busy, x -> x.end(8));
        twins.refused("end: state", STATE, LockTest::busy, x -> x.end(7));
    }

    /** "An object is used for at most 512 calls after it has been made" */
    private static void fiveHundredTwelveCalls() {
        TieredLocks ends = new TieredLocks();
        for (int i = 0; i < 256; i++) {
            check.same("begin, 256 times", 0, ends.begin());
            check.same("end, 256 times", 0, ends.end(0));
        }
        TieredLocks queues = begun(2);
        for (int i = 0; i < 102; i++) {
            check.same("X, 102 times", GRANTED, queues.lock(i % 2, 0, X));
            check.same("S behind it, 102 times", WAITS, queues.lock(1 - i % 2, 0, S));
            queues.unlock(i % 2, 0);
            check.same("S served, 102 times", S, queues.held(1 - i % 2, 0));
            queues.unlock(1 - i % 2, 0);
        }
        check.same("the 512th call and the one before", ACTIVE + ACTIVE, queues.state(0) + queues.state(1));
    }
}
