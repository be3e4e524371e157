/** Locks on a tree of resources (database, tables, pages, rows), with waiting in order and no circle of waiting. */
public final class TieredLocks {
    public static final int WAITS = 0, GRANTED = 1, COVERED = 2, KEPT = 3, DEADLOCK = 4;
    public static final int NONE = -1;

    private static final int TRANSACTIONS = 8;

    private static final int RESOURCES = 34;
    private static final int DATABASE = 0;
    private static final int FIRST_TABLE = 1;
    private static final int FIRST_PAGE = 4;
    private static final int FIRST_ROW = 10;
    private static final int PAGES_IN_TABLE = 2;
    private static final int ROWS_IN_PAGE = 4;
    private static final int LEVELS_ABOVE_ROW = 3;

    // The mode that the document calls NONE bears another name here, for NONE is the answer -1.
    private static final int NOTHING = 0;
    private static final int IS = 1;
    private static final int IX = 2;
    private static final int S = 3;
    private static final int SIX = 4;
    private static final int X = 5;

    /** Bit b of element a tells whether the modes a and b go together. */
    private static final int[] TOGETHER = {0b111111, 0b011111, 0b000111, 0b001011, 0b000011, 0b000001};

    private static final int IDLE = 0;
    private static final int ACTIVE = 1;
    private static final int WAITING = 2;

    /** The mode that t holds on r is at t * RESOURCES + r. */
    private final int[] modes;

    /** IDLE, ACTIVE, or WAITING + r, for each transaction. */
    private final int[] situations;

    /** What each transaction wants: NOTHING for one that does not wait. */
    private final int[] wishes;

    /** The place of each waiting transaction in its queue; one transaction stands in one queue at most. */
    private final int[] places;

    public TieredLocks() {
        modes = new int[TRANSACTIONS * RESOURCES];
        situations = new int[TRANSACTIONS];
        wishes = new int[TRANSACTIONS];
        places = new int[TRANSACTIONS];
    }

    public int begin() {
        for (int t = 0; t < TRANSACTIONS; t++) {
            if (situations[t] == IDLE) {
                situations[t] = ACTIVE;
                return t;
            }
        }
        return NONE;
    }

    public int lock(int t, int r, int mode)
            throws IllegalArgumentException, IllegalStateException, UnsupportedOperationException {
        if (!isTransaction(t) || !isResource(r) || !canBeAsked(r, mode)) {
            throw new IllegalArgumentException();
        }
        if (situations[t] != ACTIVE) {
            throw new IllegalStateException();
        }
        if (!isAnnounced(t, r, mode)) {
            throw new UnsupportedOperationException();
        }
        return request(t, r, mode);
    }

    public void unlock(int t, int r)
            throws IllegalArgumentException, IllegalStateException, UnsupportedOperationException {
        if (!isTransaction(t) || !isResource(r)) {
            throw new IllegalArgumentException();
        }
        if (situations[t] != ACTIVE || !isHolder(t, r)) {
            throw new IllegalStateException();
        }
        if (holdsOnChild(t, r)) {
            throw new UnsupportedOperationException();
        }
        giveUp(t, r);
    }

    public int escalate(int t, int r) throws IllegalArgumentException, IllegalStateException {
        if (!isTransaction(t) || !isTableOrPage(r)) {
            throw new IllegalArgumentException();
        }
        if (situations[t] != ACTIVE) {
            throw new IllegalStateException();
        }
        if (countBelow(t, r) == 0) {
            return 0;
        }
        int mode = join(writesWithin(t, r) ? X : S, modeOf(t, r));
        if (!fitsOthers(t, r, mode)) {
            return NONE;
        }
        setMode(t, r, mode);
        int given = giveUpBelow(t, r);
        serve(r);
        return given;
    }

    public int end(int t) throws IllegalArgumentException, IllegalStateException {
        if (!isTransaction(t)) {
            throw new IllegalArgumentException();
        }
        if (situations[t] == IDLE) {
            throw new IllegalStateException();
        }
        int awaited = awaitedBy(t);
        if (awaited != NONE) {
            leaveQueue(t);
        }
        situations[t] = IDLE;
        int woken = 0;
        for (int r = RESOURCES - 1; r >= 0; r--) {
            if (isHolder(t, r) || r == awaited) {
                woken += giveUp(t, r);
            }
        }
        return woken;
    }

    public int held(int t, int r) {
        return isTransaction(t) && isResource(r) ? modeOf(t, r) : NONE;
    }

    public int state(int t) {
        return isTransaction(t) ? situations[t] : NONE;
    }

    public int wanted(int t) {
        return isTransaction(t) ? wishes[t] : NONE;
    }

    public int queue(int r, int k) {
        return isResource(r) ? standingAt(r, k) : NONE;
    }

    public int waitsFor(int t) {
        return isTransaction(t) ? blockersOf(t) : NONE;
    }

    public int access(int t, int r) {
        if (!isTransaction(t) || !isResource(r) || !isRow(r)) {
            return NONE;
        }
        return Math.max(rightBy(modeOf(t, r)), rightFromAbove(t, r));
    }

    public int locks(int t) {
        if (!isTransaction(t)) {
            return NONE;
        }
        int count = 0;
        for (int r = 0; r < RESOURCES; r++) {
            if (isHolder(t, r)) {
                count++;
            }
        }
        return count;
    }

    // Transactions and resources

    private static boolean isTransaction(int t) {
        return t >= 0 && t < TRANSACTIONS;
    }

    private static boolean isResource(int r) {
        return r >= 0 && r < RESOURCES;
    }

    private static boolean isRow(int r) {
        return r >= FIRST_ROW;
    }

    private static boolean isTableOrPage(int r) {
        return r >= FIRST_TABLE && r < FIRST_ROW;
    }

    private static int parentOf(int r) {
        if (r == DATABASE) {
            return NONE;
        }
        if (r < FIRST_PAGE) {
            return DATABASE;
        }
        if (r < FIRST_ROW) {
            return FIRST_TABLE + (r - FIRST_PAGE) / PAGES_IN_TABLE;
        }
        return FIRST_PAGE + (r - FIRST_ROW) / ROWS_IN_PAGE;
    }

    private static boolean isBelow(int low, int r) {
        int above = parentOf(low);
        for (int level = 0; level < LEVELS_ABOVE_ROW && above != NONE; level++) {
            if (above == r) {
                return true;
            }
            above = parentOf(above);
        }
        return false;
    }

    // Modes

    private static boolean goTogether(int one, int other) {
        return (TOGETHER[one] >> other & 1) == 1;
    }

    private static int join(int one, int other) {
        int less = Math.min(one, other);
        int more = Math.max(one, other);
        // The modes are numbered so that the greater one is the join of any two but these.
        return less == IX && more == S ? SIX : more;
    }

    private static boolean covers(int one, int other) {
        return join(one, other) == one;
    }

    private static boolean onlyReads(int mode) {
        return mode == IS || mode == S;
    }

    private static boolean canBeAsked(int r, int mode) {
        return isRow(r) ? mode == S || mode == X : mode >= IS && mode <= X;
    }

    /** What a mode lets its holder do with all rows below, in the numbers of access(). */
    private static int rightBy(int mode) {
        if (mode == X) {
            return 2;
        }
        return mode == S || mode == SIX ? 1 : 0;
    }

    // What is held

    private int modeOf(int t, int r) {
        return modes[t * RESOURCES + r];
    }

    private void setMode(int t, int r, int mode) {
        modes[t * RESOURCES + r] = mode;
    }

    private boolean isHolder(int t, int r) {
        return modeOf(t, r) != NOTHING;
    }

    private boolean holdsOnChild(int t, int r) {
        for (int child = r + 1; child < RESOURCES; child++) {
            if (parentOf(child) == r && isHolder(t, child)) {
                return true;
            }
        }
        return false;
    }

    private boolean fitsOthers(int t, int r, int mode) {
        for (int other = 0; other < TRANSACTIONS; other++) {
            if (other != t && !goTogether(mode, modeOf(other, r))) {
                return false;
            }
        }
        return true;
    }

    /** The most that t may do with r by what it holds above r. */
    private int rightFromAbove(int t, int r) {
        int right = 0;
        int above = parentOf(r);
        for (int level = 0; level < LEVELS_ABOVE_ROW && above != NONE; level++) {
            right = Math.max(right, rightBy(modeOf(t, above)));
            above = parentOf(above);
        }
        return right;
    }

    /** Ends t's hold on r, and answers how many others became active by that. */
    private int giveUp(int t, int r) {
        setMode(t, r, NOTHING);
        return serve(r);
    }

    // Requests

    private boolean isAnnounced(int t, int r, int mode) {
        int parent = parentOf(r);
        return parent == NONE || covers(modeOf(t, parent), onlyReads(mode) ? IS : IX);
    }

    private boolean isCovered(int t, int r, int mode) {
        return rightFromAbove(t, r) >= (onlyReads(mode) ? 1 : 2);
    }

    private int request(int t, int r, int mode) {
        if (isCovered(t, r, mode)) {
            return COVERED;
        }
        int wish = join(mode, modeOf(t, r));
        if (wish == modeOf(t, r)) {
            return KEPT;
        }
        if (fitsOthers(t, r, wish) && (isHolder(t, r) || standingAt(r, 0) == NONE)) {
            setMode(t, r, wish);
            return GRANTED;
        }
        // Whether there is a circle depends on where t would stand, so it stands there first.
        enterQueue(t, r, wish);
        if (isInCircle(t)) {
            leaveQueue(t);
            return DEADLOCK;
        }
        return WAITS;
    }

    // Queues

    private int awaitedBy(int t) {
        return situations[t] >= WAITING ? situations[t] - WAITING : NONE;
    }

    private int standingAt(int r, int place) {
        for (int t = 0; t < TRANSACTIONS; t++) {
            if (awaitedBy(t) == r && places[t] == place) {
                return t;
            }
        }
        return NONE;
    }

    private void enterQueue(int t, int r, int wish) {
        int place = placeFor(t, r);
        shiftQueue(r, place, 1);
        situations[t] = WAITING + r;
        wishes[t] = wish;
        places[t] = place;
    }

    private void leaveQueue(int t) {
        int r = awaitedBy(t);
        situations[t] = ACTIVE;
        wishes[t] = NOTHING;
        shiftQueue(r, places[t], -1);
    }

    /** An upgrade goes behind the upgrades, which all stand in front; any other request behind all. */
    private int placeFor(int t, int r) {
        int place = 0;
        for (int other = 0; other < TRANSACTIONS; other++) {
            if (awaitedBy(other) == r && (isHolder(other, r) || !isHolder(t, r))) {
                place++;
            }
        }
        return place;
    }

    private void shiftQueue(int r, int from, int step) {
        for (int t = 0; t < TRANSACTIONS; t++) {
            if (awaitedBy(t) == r && places[t] >= from) {
                places[t] += step;
            }
        }
    }

    /** Lets in the first ones of the queue of r as long as they fit, and answers how many. */
    private int serve(int r) {
        for (int served = 0; served < TRANSACTIONS; served++) {
            int first = standingAt(r, 0);
            if (first == NONE || !fitsOthers(first, r, wishes[first])) {
                return served;
            }
            setMode(first, r, wishes[first]);
            leaveQueue(first);
        }
        return TRANSACTIONS;
    }

    // Circles: a set of transactions is the sum of 2^u over its members u

    private int blockersOf(int t) {
        int r = awaitedBy(t);
        if (r == NONE) {
            return 0;
        }
        int blockers = 0;
        for (int u = 0; u < TRANSACTIONS; u++) {
            if (u != t && blocks(u, t, r)) {
                blockers |= 1 << u;
            }
        }
        return blockers;
    }

    private boolean blocks(int u, int t, int r) {
        return !goTogether(modeOf(u, r), wishes[t]) || awaitedBy(u) == r && places[u] < places[t];
    }

    private boolean isInCircle(int t) {
        int reached = blockersOf(t);
        // A chain without repetition has at most TRANSACTIONS steps.
        for (int step = 0; step < TRANSACTIONS; step++) {
            reached |= blockersOfAll(reached);
        }
        return contains(reached, t);
    }

    private int blockersOfAll(int set) {
        int blockers = 0;
        for (int u = 0; u < TRANSACTIONS; u++) {
            if (contains(set, u)) {
                blockers |= blockersOf(u);
            }
        }
        return blockers;
    }

    private static boolean contains(int set, int t) {
        return (set >> t & 1) == 1;
    }

    // Escalation

    private int countBelow(int t, int r) {
        int count = 0;
        for (int low = r + 1; low < RESOURCES; low++) {
            if (isBelow(low, r) && isHolder(t, low)) {
                count++;
            }
        }
        return count;
    }

    private boolean writesWithin(int t, int r) {
        for (int low = r; low < RESOURCES; low++) {
            if ((low == r || isBelow(low, r)) && covers(modeOf(t, low), IX)) {
                return true;
            }
        }
        return false;
    }

    private int giveUpBelow(int t, int r) {
        int given = 0;
        for (int low = RESOURCES - 1; low > r; low--) {
            if (isBelow(low, r) && isHolder(t, low)) {
                giveUp(t, low);
                given++;
            }
        }
        return given;
    }
}
