import java.util.NoSuchElementException;

/** Compares answers with those that are due, counts the wrong ones, and ends the program by them. */
final class Check {
    interface Call {
        long answer();
    }

    interface Action {
        void run();
    }

    private static final int SHOWN = 20;

    private final String name;
    private int calls;
    private int wrong;

    Check(String name) {
        this.name = name;
    }

    void due(long want, String what, Call call) {
        calls++;
        String got;
        try {
            long answer = call.answer();
            if (answer == want) {
                return;
            }
            got = "answered " + answer;
        } catch (RuntimeException e) {
            got = "threw " + e;
        }
        complain(what + " " + got + ", due is " + want);
    }

    /** Says that each of several calls in a row answers what is due at its place. */
    void dueAll(String what, Call[] calls, long... wants) {
        if (calls.length != wants.length) {
            throw new IllegalStateException("the test itself is wrong: " + what);
        }
        for (int i = 0; i < calls.length; i++) {
            due(wants[i], what + " at place " + i, calls[i]);
        }
    }

    void noIndex(String what, Call call) {
        thrown(IndexOutOfBoundsException.class, what, call);
    }

    void noState(String what, Call call) {
        thrown(IllegalStateException.class, what, call);
    }

    void noElement(String what, Call call) {
        thrown(NoSuchElementException.class, what, call);
    }

    void noArgument(String what, Call call) {
        thrown(IllegalArgumentException.class, what, call);
    }

    /** The class itself is asked for: ArrayIndexOutOfBoundsException is no IndexOutOfBoundsException here. */
    private void thrown(Class<? extends RuntimeException> want, String what, Call call) {
        calls++;
        String got;
        try {
            got = "answered " + call.answer();
        } catch (RuntimeException e) {
            if (e.getClass() == want) {
                return;
            }
            got = "threw " + e;
        }
        complain(what + " " + got + ", due is " + want.getSimpleName());
    }

    void holds(boolean right, String what) {
        calls++;
        if (!right) {
            complain(what);
        }
    }

    int calls() {
        return calls;
    }

    int wrong() {
        return wrong;
    }

    private void complain(String text) {
        wrong++;
        if (wrong <= SHOWN) {
            System.out.println(name + ": " + text);
        }
    }

    void end() {
        System.out.println(name + ": " + calls + " checks, " + wrong + " wrong");
        if (wrong != 0) {
            System.exit(1);
        }
    }
}
