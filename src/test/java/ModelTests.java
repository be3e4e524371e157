import java.util.ArrayList;
import java.util.EnumSet;
import java.util.HashMap;
import java.util.HashSet;
import java.util.List;
import java.util.Map;
import java.util.Random;
import java.util.Set;
import java.util.TreeMap;

/** Runs of calls by fixed seeds, each answer compared with that of a plain model of the document's words. */
public final class ModelTests {
    private static final int RUNS = 4000;
    private static final int CALLS_OF_AN_OBJECT = 512;
    private static final int WRONG_ONE_IN = 60;

    /** Answers of calls that throw; no call answers them otherwise. */
    private static final int ARGUMENT = -101, STATE = -102, UNSUPPORTED = -103, ANOTHER = -104;

    private static final Checks check = new Checks();
    private static final Map<String, Integer> seen = new TreeMap<>();

    public static void main(String[] args) {
        for (int run = 0; run < RUNS; run++) {
            oneRun(run);
        }
        enoughWasSeen();
        check.finish();
    }

    /** A run that never meets an outcome proves nothing about it. */
    private static void enoughWasSeen() {
        String[] outcomes = {
            "begin NONE", "begin some",
            "lock 0", "lock 1", "lock 2", "lock 3", "lock 4", "lock IllegalArgument", "lock IllegalState",
            "lock Unsupported",
            "unlock 0", "unlock IllegalArgument", "unlock IllegalState", "unlock Unsupported",
            "escalate NONE", "escalate 0", "escalate some", "escalate IllegalArgument", "escalate IllegalState",
            "end 0", "end 1", "end 2", "end 3", "end IllegalArgument", "end IllegalState"};
        for (String outcome : outcomes) {
            int times = seen.getOrDefault(outcome, 0);
            check.isTrue("too few of: " + outcome + ", only " + times, times >= 100);
        }
    }

    private static void oneRun(int seed) {
        Random random = new Random(seed);
        TieredLocks x = new TieredLocks();
        Model model = new Model();
        int transactions = 2 + random.nextInt(7);
        // Runs on a small part of the tree meet one another's locks more often.
        int breadth = random.nextInt(3);
        List<String> history = new ArrayList<>();
        for (int call = 0; call < CALLS_OF_AN_OBJECT; call++) {
            int[] chosen = choose(random, model, transactions, breadth);
            int due = model.answer(chosen);
            int got = answer(x, chosen);
            String text = describe(chosen);
            history.add(text + " = " + due);
            note(chosen[0], due);
            check.isTrue("seed " + seed + ": " + text + " answered " + got + ", due is " + due, due == got);
            if (due != got) {
                System.out.println(String.join("; ", history.subList(Math.max(0, call - 30), call + 1)));
                return;
            }
        }
    }

    private static final String[] NAMES = {
        "begin", "lock", "unlock", "escalate", "end", "held", "state", "wanted", "queue", "waitsFor", "access", "locks"};

    private static String describe(int[] call) {
        return NAMES[call[0]] + "(" + call[1] + ", " + call[2] + ", " + call[3] + ")";
    }

    private static void note(int name, int due) {
        String outcome = switch (due) {
            case ARGUMENT -> "IllegalArgument";
            case STATE -> "IllegalState";
            case UNSUPPORTED -> "Unsupported";
            case -1 -> "NONE";
            default -> name == 0 || name == 3 && due > 0 ? "some" : Integer.toString(due);
        };
        seen.merge(NAMES[name] + " " + outcome, 1, Integer::sum);
    }

    private static int[] choose(Random random, Model model, int transactions, int breadth) {
        int t = transaction(random, model, transactions);
        int r = resource(random, breadth);
        int third = 0;
        int name = name(random, model, transactions);
        if (name == 1) {
            r = lockable(random, model, t, r, breadth);
            third = mode(random, r);
        } else if (name == 3) {
            r = 1 + random.nextInt(breadth == 0 ? 4 : 9);
        } else if (name == 8) {
            t = r;
            r = random.nextInt(4);
        } else if (name == 10) {
            r = 10 + random.nextInt(24);
        }
        int[] call = {name, t, r, third};
        if (random.nextInt(WRONG_ONE_IN) == 0) {
            call[1 + random.nextInt(3)] = random.nextInt(44) - 5;
        }
        return call;
    }

    private static int name(Random random, Model model, int transactions) {
        int dice = random.nextInt(100);
        if (dice < 8) {
            // Idle ones beyond the number of this run stay so, but for a few calls.
            return model.count(Model.Standing.IDLE) > 8 - transactions || random.nextInt(40) == 0 ? 0 : 1;
        }
        if (dice < 50) {
            return 1;
        }
        if (dice < 56) {
            return 2;
        }
        if (dice < 60) {
            return 3;
        }
        if (dice < 64) {
            return random.nextInt(3) == 0 || model.count(Model.Standing.ACTIVE) < 2 ? 4 : 8;
        }
        return 5 + random.nextInt(7);
    }

    /** Mostly an active one: otherwise nearly every call would throw. */
    private static int transaction(Random random, Model model, int transactions) {
        int t = random.nextInt(transactions);
        for (int attempt = 0; attempt < 3 && !model.isActive(t); attempt++) {
            t = random.nextInt(transactions);
        }
        return t;
    }

    /** High up mostly IS and IX: otherwise hardly any lock would come about below. */
    private static int mode(Random random, int r) {
        if (r >= 10 && random.nextInt(30) != 0) {
            return random.nextBoolean() ? 3 : 5;
        }
        int weak = r == 0 ? 24 : r <= 3 ? 6 : 2;
        return random.nextInt(weak) != 0 ? 1 + random.nextInt(2) : 1 + random.nextInt(5);
    }

    private static int resource(Random random, int breadth) {
        if (breadth == 2) {
            return random.nextInt(34);
        }
        int[] few = breadth == 0 ? new int[] {0, 1, 4, 10} : new int[] {0, 0, 1, 1, 2, 4, 4, 5, 6, 10, 10, 11, 14, 18};
        return few[random.nextInt(few.length)];
    }

    /** Mostly one whose parent is held: otherwise nearly every request would throw. */
    private static int lockable(Random random, Model model, int t, int r, int breadth) {
        int chosen = r;
        for (int attempt = 0; attempt < 8; attempt++) {
            if (chosen == 0 || model.modeOf(t, Model.parent(chosen)) != Model.Mode.NONE) {
                return chosen;
            }
            chosen = resource(random, breadth);
        }
        return chosen;
    }

    private static int answer(TieredLocks x, int[] c) {
        try {
            return switch (c[0]) {
                case 0 -> x.begin();
                case 1 -> x.lock(c[1], c[2], c[3]);
                case 2 -> unlocked(x, c[1], c[2]);
                case 3 -> x.escalate(c[1], c[2]);
                case 4 -> x.end(c[1]);
                case 5 -> x.held(c[1], c[2]);
                case 6 -> x.state(c[1]);
                case 7 -> x.wanted(c[1]);
                case 8 -> x.queue(c[1], c[2]);
                case 9 -> x.waitsFor(c[1]);
                case 10 -> x.access(c[1], c[2]);
                default -> x.locks(c[1]);
            };
        } catch (IllegalArgumentException e) {
            return ARGUMENT;
        } catch (IllegalStateException e) {
            return STATE;
        } catch (UnsupportedOperationException e) {
            return UNSUPPORTED;
        } catch (RuntimeException e) {
            return ANOTHER;
        }
    }

    private static int unlocked(TieredLocks x, int t, int r) {
        x.unlock(t, r);
        return 0;
    }

    /** The document's words, written down with sets and lists and with no eye to speed. */
    private static final class Model {
        enum Mode { NONE, IS, IX, S, SIX, X }

        enum Standing { IDLE, ACTIVE, WAITING }

        private final Standing[] standing = new Standing[8];
        private final Mode[] wanted = new Mode[8];
        private final Map<Integer, Map<Integer, Mode>> holders = new HashMap<>();
        private final Map<Integer, List<Integer>> queues = new HashMap<>();

        Model() {
            for (int t = 0; t < 8; t++) {
                standing[t] = Standing.IDLE;
                wanted[t] = Mode.NONE;
            }
            for (int r = 0; r < 34; r++) {
                holders.put(r, new HashMap<>());
                queues.put(r, new ArrayList<>());
            }
        }

        static int parent(int r) {
            if (r >= 10) {
                return 4 + (r - 10) / 4;
            }
            if (r >= 4) {
                return 1 + (r - 4) / 2;
            }
            return r >= 1 ? 0 : -1;
        }

        static List<Integer> above(int r) {
            List<Integer> all = new ArrayList<>();
            for (int p = parent(r); p >= 0; p = parent(p)) {
                all.add(p);
            }
            return all;
        }

        static List<Integer> below(int r) {
            List<Integer> all = new ArrayList<>();
            for (int low = 33; low >= 0; low--) {
                if (above(low).contains(r)) {
                    all.add(low);
                }
            }
            return all;
        }

        static boolean together(Mode a, Mode b) {
            Set<Mode> fitting = switch (a) {
                case NONE -> EnumSet.allOf(Mode.class);
                case IS -> EnumSet.of(Mode.NONE, Mode.IS, Mode.IX, Mode.S, Mode.SIX);
                case IX -> EnumSet.of(Mode.NONE, Mode.IS, Mode.IX);
                case S -> EnumSet.of(Mode.NONE, Mode.IS, Mode.S);
                case SIX -> EnumSet.of(Mode.NONE, Mode.IS);
                case X -> EnumSet.of(Mode.NONE);
            };
            return fitting.contains(b);
        }

        static Mode join(Mode a, Mode b) {
            if (a == b || b == Mode.NONE) {
                return a;
            }
            if (a == Mode.NONE || a == Mode.IS) {
                return b;
            }
            if (b == Mode.IS) {
                return a;
            }
            return a == Mode.X || b == Mode.X ? Mode.X : Mode.SIX;
        }

        int count(Standing which) {
            int number = 0;
            for (Standing one : standing) {
                number += one == which ? 1 : 0;
            }
            return number;
        }

        boolean isActive(int t) {
            return standing[t] == Standing.ACTIVE;
        }

        Mode modeOf(int t, int r) {
            return holders.get(r).getOrDefault(t, Mode.NONE);
        }

        int answer(int[] c) {
            boolean knownT = c[1] >= 0 && c[1] <= 7;
            boolean knownR = c[2] >= 0 && c[2] <= 33;
            return switch (c[0]) {
                case 0 -> begin();
                case 1 -> !knownT || !knownR ? ARGUMENT : lock(c[1], c[2], c[3]);
                case 2 -> !knownT || !knownR ? ARGUMENT : unlock(c[1], c[2]);
                case 3 -> !knownT || c[2] < 1 || c[2] > 9 ? ARGUMENT : escalate(c[1], c[2]);
                case 4 -> !knownT ? ARGUMENT : end(c[1]);
                case 5 -> !knownT || !knownR ? -1 : modeOf(c[1], c[2]).ordinal();
                case 6 -> !knownT ? -1 : state(c[1]);
                case 7 -> !knownT ? -1 : wanted[c[1]].ordinal();
                case 8 -> queue(c[1], c[2]);
                case 9 -> !knownT ? -1 : bits(blockers(c[1]));
                case 10 -> !knownT || c[2] < 10 || c[2] > 33 ? -1 : access(c[1], c[2]);
                default -> !knownT ? -1 : locks(c[1]);
            };
        }

        private int begin() {
            for (int t = 0; t < 8; t++) {
                if (standing[t] == Standing.IDLE) {
                    standing[t] = Standing.ACTIVE;
                    return t;
                }
            }
            return -1;
        }

        private int lock(int t, int r, int number) {
            if (number < 1 || number > 5) {
                return ARGUMENT;
            }
            Mode mode = Mode.values()[number];
            boolean reading = mode == Mode.IS || mode == Mode.S;
            if (r >= 10 && mode != Mode.S && mode != Mode.X) {
                return ARGUMENT;
            }
            if (standing[t] != Standing.ACTIVE) {
                return STATE;
            }
            if (r > 0) {
                Mode announced = modeOf(t, parent(r));
                if (join(announced, reading ? Mode.IS : Mode.IX) != announced) {
                    return UNSUPPORTED;
                }
            }
            for (int up : above(r)) {
                Mode there = modeOf(t, up);
                if (there == Mode.X || reading && (there == Mode.S || there == Mode.SIX)) {
                    return 2;
                }
            }
            Mode had = modeOf(t, r);
            Mode want = join(mode, had);
            if (want == had) {
                return 3;
            }
            boolean upgrade = had != Mode.NONE;
            if (fits(t, r, want) && (upgrade || queues.get(r).isEmpty())) {
                holders.get(r).put(t, want);
                return 1;
            }
            return toWait(t, r, want, upgrade);
        }

        private int toWait(int t, int r, Mode want, boolean upgrade) {
            List<Integer> queue = queues.get(r);
            List<Integer> before = new ArrayList<>(queue);
            int place = queue.size();
            if (upgrade) {
                place = 0;
                while (place < queue.size() && modeOf(queue.get(place), r) != Mode.NONE) {
                    place++;
                }
            }
            queue.add(place, t);
            standing[t] = Standing.WAITING;
            wanted[t] = want;
            if (reaches(t, t, new HashSet<>())) {
                queues.put(r, before);
                standing[t] = Standing.ACTIVE;
                wanted[t] = Mode.NONE;
                return 4;
            }
            return 0;
        }

        private boolean reaches(int from, int to, Set<Integer> visited) {
            for (int u : blockers(from)) {
                if (u == to || visited.add(u) && reaches(u, to, visited)) {
                    return true;
                }
            }
            return false;
        }

        private Set<Integer> blockers(int t) {
            Set<Integer> all = new HashSet<>();
            for (int r = 0; r < 34; r++) {
                List<Integer> queue = queues.get(r);
                int place = queue.indexOf(t);
                if (place >= 0) {
                    all.addAll(queue.subList(0, place));
                    holders.get(r).forEach((u, mode) -> {
                        if (!together(mode, wanted[t])) {
                            all.add(u);
                        }
                    });
                }
            }
            all.remove(t);
            return all;
        }

        private static int bits(Set<Integer> set) {
            int sum = 0;
            for (int u : set) {
                sum += 1 << u;
            }
            return sum;
        }

        private boolean fits(int t, int r, Mode mode) {
            return holders.get(r).entrySet().stream().allMatch(e -> e.getKey() == t || together(mode, e.getValue()));
        }

        private int serve(int r) {
            List<Integer> queue = queues.get(r);
            int served = 0;
            while (!queue.isEmpty() && fits(queue.get(0), r, wanted[queue.get(0)])) {
                int first = queue.remove(0);
                holders.get(r).put(first, wanted[first]);
                wanted[first] = Mode.NONE;
                standing[first] = Standing.ACTIVE;
                served++;
            }
            return served;
        }

        private int unlock(int t, int r) {
            if (standing[t] != Standing.ACTIVE || modeOf(t, r) == Mode.NONE) {
                return STATE;
            }
            for (int low = 0; low < 34; low++) {
                if (parent(low) == r && modeOf(t, low) != Mode.NONE) {
                    return UNSUPPORTED;
                }
            }
            holders.get(r).remove(t);
            serve(r);
            return 0;
        }

        private int escalate(int t, int r) {
            if (standing[t] != Standing.ACTIVE) {
                return STATE;
            }
            List<Integer> given = below(r);
            given.removeIf(low -> modeOf(t, low) == Mode.NONE);
            if (given.isEmpty()) {
                return 0;
            }
            Set<Mode> writing = EnumSet.of(Mode.IX, Mode.SIX, Mode.X);
            boolean writes = writing.contains(modeOf(t, r)) || given.stream().anyMatch(w -> writing.contains(modeOf(t, w)));
            Mode mode = join(writes ? Mode.X : Mode.S, modeOf(t, r));
            if (!fits(t, r, mode)) {
                return -1;
            }
            holders.get(r).put(t, mode);
            given.forEach(low -> holders.get(low).remove(t));
            given.forEach(this::serve);
            serve(r);
            return given.size();
        }

        private int end(int t) {
            if (standing[t] == Standing.IDLE) {
                return STATE;
            }
            int woken = 0;
            standing[t] = Standing.IDLE;
            wanted[t] = Mode.NONE;
            for (int r = 33; r >= 0; r--) {
                boolean waited = queues.get(r).remove(Integer.valueOf(t));
                boolean held = holders.get(r).remove(t) != null;
                if (waited || held) {
                    woken += serve(r);
                }
            }
            return woken;
        }

        private int state(int t) {
            for (int r = 0; r < 34; r++) {
                if (queues.get(r).contains(t)) {
                    return 2 + r;
                }
            }
            return standing[t] == Standing.IDLE ? 0 : 1;
        }

        private int queue(int r, int k) {
            List<Integer> queue = queues.getOrDefault(r, List.of());
            return k >= 0 && k < queue.size() ? queue.get(k) : -1;
        }

        private int access(int t, int r) {
            Set<Mode> all = EnumSet.of(modeOf(t, r));
            above(r).forEach(up -> all.add(modeOf(t, up)));
            if (all.contains(Mode.X)) {
                return 2;
            }
            return all.contains(Mode.S) || all.contains(Mode.SIX) ? 1 : 0;
        }

        private int locks(int t) {
            return (int) holders.values().stream().filter(held -> held.containsKey(t)).count();
        }
    }
}
