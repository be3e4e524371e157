import java.util.ArrayList;
import java.util.Arrays;
import java.util.List;
import java.util.Set;
import java.util.TreeSet;
import java.util.function.Consumer;
import java.util.function.Supplier;
import java.util.function.ToIntFunction;

/**
 * Objects made alike in pairs, of which one gets one call more: what that call changed is where their answers differ.
 * An object is good for 512 calls only, so each part of the questions goes to a new pair.
 */
final class Twins {
    private static final int QUESTIONS_TO_A_PAIR = 300;
    private static final int[][] LATER_REQUESTS = {{0, 2}, {1, 2}, {4, 2}, {10, 5}, {11, 3}, {0, 3}};

    private record Question(String text, ToIntFunction<TieredLocks> ask) { }

    private static final List<Question> QUESTIONS = questions();

    private final Checks check;

    Twins(Checks check) {
        this.check = check;
    }

    /** The call answers what is due, and no later answer shows that it was made. */
    void unchanged(String what, int due, Supplier<TieredLocks> scene, ToIntFunction<TieredLocks> call) {
        same(what, Integer.toString(due), outcome(scene.get(), call));
        nothingChanged(what, scene, x -> outcome(x, call));
    }

    /** The call throws what is due, and no later answer shows that it was made. */
    void refused(String what, Class<? extends RuntimeException> due, Supplier<TieredLocks> scene,
            Consumer<TieredLocks> call) {
        check.raises(what, due, () -> call.accept(scene.get()));
        nothingChanged(what, scene, x -> outcome(x, asked(call)));
    }

    /** The call answers what is due; of all the questions these, like "held(0, 10)=5", have new answers, and no other. */
    void changed(String what, int due, Supplier<TieredLocks> scene, ToIntFunction<TieredLocks> call, String... news) {
        same(what, Integer.toString(due), outcome(scene.get(), call));
        same(what, new TreeSet<>(Arrays.asList(news)).toString(), changes(scene, x -> outcome(x, call)).toString());
    }

    private void nothingChanged(String what, Supplier<TieredLocks> scene, Consumer<TieredLocks> call) {
        same(what, "[]", changes(scene, call).toString());
        sameLater(what, scene, call, 0, 1);
        sameLater(what, scene, call, 7, -1);
    }

    private static Set<String> changes(Supplier<TieredLocks> scene, Consumer<TieredLocks> call) {
        Set<String> news = new TreeSet<>();
        for (int from = 0; from < QUESTIONS.size(); from += QUESTIONS_TO_A_PAIR) {
            TieredLocks plain = scene.get();
            TieredLocks called = scene.get();
            call.accept(called);
            int to = Math.min(QUESTIONS.size(), from + QUESTIONS_TO_A_PAIR);
            for (Question question : QUESTIONS.subList(from, to)) {
                String before = outcome(plain, question.ask());
                String after = outcome(called, question.ask());
                if (!before.equals(after)) {
                    news.add(question.text() + "=" + after);
                }
            }
        }
        return news;
    }

    /** What no question brings to light may still show once the transactions ask for more, and end one after the other. */
    private void sameLater(String what, Supplier<TieredLocks> scene, Consumer<TieredLocks> call, int first, int step) {
        TieredLocks plain = scene.get();
        TieredLocks called = scene.get();
        call.accept(called);
        for (ToIntFunction<TieredLocks> later : laterCalls(first, step)) {
            same(what + ", later", outcome(plain, later), outcome(called, later));
        }
    }

    private static List<ToIntFunction<TieredLocks>> laterCalls(int first, int step) {
        List<ToIntFunction<TieredLocks>> calls = new ArrayList<>();
        for (int[] request : LATER_REQUESTS) {
            for (int i = 0; i < 8; i++) {
                int t = first + i * step;
                calls.add(x -> x.lock(t, request[0], request[1]));
            }
        }
        for (int i = 0; i < 8; i++) {
            int t = first + i * step;
            calls.add(x -> x.end(t));
            for (int u = 0; u < 8; u++) {
                int other = u;
                calls.add(x -> x.state(other));
                calls.add(x -> x.locks(other));
            }
        }
        for (int i = 0; i < 9; i++) {
            calls.add(x -> x.begin());
        }
        return calls;
    }

    private static List<Question> questions() {
        List<Question> all = new ArrayList<>();
        for (int i = 0; i < 8; i++) {
            int t = i;
            all.add(new Question("state(" + t + ")", x -> x.state(t)));
            all.add(new Question("wanted(" + t + ")", x -> x.wanted(t)));
            all.add(new Question("waitsFor(" + t + ")", x -> x.waitsFor(t)));
            all.add(new Question("locks(" + t + ")", x -> x.locks(t)));
            for (int j = 0; j < 34; j++) {
                int r = j;
                all.add(new Question("held(" + t + ", " + r + ")", x -> x.held(t, r)));
                all.add(new Question("queue(" + r + ", " + t + ")", x -> x.queue(r, t)));
                if (r >= 10) {
                    all.add(new Question("access(" + t + ", " + r + ")", x -> x.access(t, r)));
                }
            }
        }
        return all;
    }

    private static ToIntFunction<TieredLocks> asked(Consumer<TieredLocks> call) {
        return x -> {
            call.accept(x);
            return 0;
        };
    }

    private static String outcome(TieredLocks x, ToIntFunction<TieredLocks> call) {
        try {
            return Integer.toString(call.applyAsInt(x));
        } catch (RuntimeException e) {
            return "throws " + e.getClass().getSimpleName();
        }
    }

    private void same(String what, String due, String got) {
        check.isTrue(what + ": " + got + ", due is " + due, due.equals(got));
    }
}
