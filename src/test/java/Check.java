/** Counts the answers that are not the ones that are due, and prints each of them. */
final class Check {
    /** A call of which only the exception matters. */
    interface Call {
        void run();
    }

    private int wrong = 0;
    private String part = "";

    void part(String name) {
        part = name;
    }

    void due(String call, long got, long want) {
        if (got != want) {
            report(call + " answered " + got + ", due is " + want);
        }
    }

    void due(String call, boolean got, boolean want) {
        due(call, got ? 1 : 0, want ? 1 : 0);
    }

    // Bit by bit, so that a float that is only near does not pass.
    void dueFloat(String call, float got, float want) {
        if (Float.floatToRawIntBits(got) != Float.floatToRawIntBits(want)) {
            report(call + " answered " + got + ", due is " + want);
        }
    }

    void badArgument(LedgerStore store, String call, Call body) {
        refused(store, call, body, IllegalArgumentException.class);
    }

    void badState(LedgerStore store, String call, Call body) {
        refused(store, call, body, IllegalStateException.class);
    }

    // A call that throws changes nothing; the digest is asked before and after it.
    private void refused(LedgerStore store, String call, Call body, Class<?> kind) {
        long before = store.digest();
        Class<?> thrown = null;
        try {
            body.run();
        } catch (RuntimeException e) {
            thrown = e.getClass();
        }
        if (thrown != kind) {
            report(call + " threw " + thrown + ", due is " + kind);
        }
        if (store.digest() != before) {
            report(call + " threw and changed the state");
        }
    }

    void report(String text) {
        wrong++;
        System.out.println(part + ": " + text);
    }

    void finish(String name) {
        System.out.println(name + (wrong == 0 ? ": all answers are as due" : ": " + wrong + " answers are not as due"));
        if (wrong != 0) {
            System.exit(1);
        }
    }
}
