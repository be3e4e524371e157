/** Compares answers with what is due, prints those that differ, and ends the program with 1 if there was one. */
final class Checks {
    private int done = 0;
    private int wrong = 0;

    void same(String what, long due, long got) {
        done++;
        if (due != got) {
            complain(what + " answered " + got + ", due is " + due);
        }
    }

    void isTrue(String what, boolean holds) {
        done++;
        if (!holds) {
            complain(what);
        }
    }

    /** The exception's very class is due, not one below it. */
    void raises(String what, Class<? extends RuntimeException> due, Runnable call) {
        done++;
        try {
            call.run();
        } catch (RuntimeException e) {
            if (e.getClass() != due) {
                complain(what + " threw " + e.getClass().getSimpleName() + ", due is " + due.getSimpleName());
            }
            return;
        }
        complain(what + " threw nothing, due is " + due.getSimpleName());
    }

    void finish() {
        System.out.println(done + " checks, " + wrong + " wrong");
        if (wrong != 0) {
            System.exit(1);
        }
    }

    private void complain(String text) {
        wrong++;
        if (wrong <= 50) {
            System.out.println(text);
        }
    }
}
