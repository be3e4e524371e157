import java.util.Arrays;

/** What the tests share: the document's numbers, its words as tables, and short ways to bring about a situation. */
abstract class LockTest {
    static final int FREE = 0, IS = 1, IX = 2, S = 3, SIX = 4, X = 5;
    static final int NONE = -1;
    static final int WAITS = 0, GRANTED = 1, COVERED = 2, KEPT = 3, DEADLOCK = 4;
    static final int IDLE = 0, ACTIVE = 1, WAITING = 2;
    static final int[] MODES = {FREE, IS, IX, S, SIX, X};

    // Besides the neighbours and the ends of int: numbers that a shift, a cast to fewer bits,
    // or a product with 8 or 34 would wrap round to a right one.
    static final int[] WRONG_TRANSACTIONS = {
        -1, 8, 9, Integer.MIN_VALUE, Integer.MAX_VALUE, -8, 32, 256, 65536, 1 << 29, 126322568};
    static final int[] WRONG_RESOURCES = {
        -1, 34, 35, Integer.MIN_VALUE, Integer.MAX_VALUE, -33, -34, 68, 256, 266, 65536, 1 << 29};
    static final int[] WRONG_MODES = {
        -1, 0, 6, Integer.MIN_VALUE, Integer.MAX_VALUE, 7, -5, 32, 33, 35, 37, 257, 261, 65539};

    static final Class<IllegalArgumentException> ARGUMENT = IllegalArgumentException.class;
    static final Class<IllegalStateException> STATE = IllegalStateException.class;
    static final Class<UnsupportedOperationException> UNSUPPORTED = UnsupportedOperationException.class;

    // Row and column in the order of MODES.
    static final String[] TOGETHER = {"yyyyyy", "yyyyyn", "yyynnn", "yynynn", "yynnnn", "ynnnnn"};
    static final int[][] JOIN = {
        {FREE, IS, IX, S, SIX, X},
        {IS, IS, IX, S, SIX, X},
        {IX, IX, IX, SIX, SIX, X},
        {S, S, SIX, S, SIX, X},
        {SIX, SIX, SIX, SIX, SIX, X},
        {X, X, X, X, X, X}};
    static final int[] PARENT = {
        -1, 0, 0, 0, 1, 1, 2, 2, 3, 3,
        4, 4, 4, 4, 5, 5, 5, 5, 6, 6, 6, 6, 7, 7, 7, 7, 8, 8, 8, 8, 9, 9, 9, 9};

    static final Checks check = new Checks();

    static boolean together(int one, int other) {
        return TOGETHER[one].charAt(other) == 'y';
    }

    static boolean isAbove(int high, int low) {
        int above = PARENT[low];
        while (above != NONE && above != high) {
            above = PARENT[above];
        }
        return above == high;
    }

    static TieredLocks begun(int transactions) {
        TieredLocks x = new TieredLocks();
        for (int t = 0; t < transactions; t++) {
            x.begin();
        }
        return x;
    }

    /** Asks for each pair of a resource and a mode by t; all must be granted. */
    static void take(TieredLocks x, int t, int... pairs) {
        for (int i = 0; i < pairs.length; i += 2) {
            check.same("taking " + pairs[i] + " in mode " + pairs[i + 1], GRANTED, x.lock(t, pairs[i], pairs[i + 1]));
        }
    }

    /** Asks for a resource and a mode by t; it must wait. */
    static void await(TieredLocks x, int t, int r, int mode) {
        check.same(t + " is to wait for " + r + " in mode " + mode, WAITS, x.lock(t, r, mode));
    }

    static void takeAllAbove(TieredLocks x, int t, int r, int mode) {
        if (PARENT[r] == NONE) {
            return;
        }
        takeAllAbove(x, t, PARENT[r], mode);
        x.lock(t, PARENT[r], mode);
    }

    static void sameQueue(String what, TieredLocks x, int r, int... due) {
        for (int k = 0; k < due.length; k++) {
            check.same(what + ": queue(" + r + ", " + k + ")", due[k], x.queue(r, k));
        }
        check.same(what + ": behind the queue of " + r, NONE, x.queue(r, due.length));
    }

    /** Three queues, one of them of an upgrade; 6 is active and holds nothing, and 7 is idle. */
    static TieredLocks busy() {
        TieredLocks x = begun(7);
        take(x, 0, 0, IX, 1, IX, 4, IX, 10, X, 11, S);
        take(x, 1, 0, IX, 1, IX, 4, IX);
        take(x, 2, 0, IS, 1, IS, 4, IS, 11, S);
        take(x, 3, 0, IX, 2, IX, 6, IX, 18, X);
        take(x, 4, 0, IX, 2, IS, 6, IS);
        take(x, 5, 0, IX, 1, IX);
        await(x, 1, 10, S);
        await(x, 5, 4, S);
        await(x, 4, 6, S);
        return x;
    }

    /** unlock(), which answers nothing, as a call that answers 0. */
    static int unlocked(TieredLocks x, int t, int r) {
        x.unlock(t, r);
        return 0;
    }

    /** These news, and what access() answers for t of each row from the first to the last one. */
    static String[] onRows(int t, int first, int last, int right, String... news) {
        String[] all = Arrays.copyOf(news, news.length + last - first + 1);
        for (int row = first; row <= last; row++) {
            all[news.length + row - first] = "access(" + t + ", " + row + ")=" + right;
        }
        return all;
    }
}
