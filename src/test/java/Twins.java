/**
 * Tells what a call leaves behind, hidden things too: stores with the same past are made again and again,
 * and each is used up by other calls. A digest alone would not see what waits in an inbox, which last
 * confirmed entries are stored, or which states are on an undo stack that is full anyway.
 */
final class Twins {
    /** Calls of which the answers don't matter. */
    interface Scene {
        void play(LedgerStore x);
    }

    /** A call of which the answer is told. */
    private interface Question {
        int ask();
    }

    private static final int DELIVERIES = 12;
    private final Check check;

    Twins(Check check) {
        this.check = check;
    }

    static LedgerStore after(Scene scene) {
        LedgerStore x = new LedgerStore();
        scene.play(x);
        return x;
    }

    void badArgument(String call, Scene before, Scene refused) {
        refused(call, before, refused, IllegalArgumentException.class);
    }

    void badState(String call, Scene before, Scene refused) {
        refused(call, before, refused, IllegalStateException.class);
    }

    private void refused(String call, Scene before, Scene refused, Class<?> kind) {
        Class<?> thrown = thrownBy(after(before), refused);
        if (thrown != kind) {
            check.report(call + " threw " + thrown + ", due is " + kind);
        }
        leavesNothing(call, before, refused);
    }

    void leavesNothing(String call, Scene before, Scene asked) {
        Scene both = x -> {
            before.play(x);
            thrownBy(x, asked);
        };
        same(call + " changes nothing", before, both);
    }

    // A call that ends is undone by one undo(), and pushes the oldest state off a full stack.
    void undoGivesBack(String call, Scene before, Scene undoable) {
        Scene there = x -> {
            before.play(x);
            x.deliverAll();
            x.undo();
        };
        Scene thereAndBack = x -> {
            there.play(x);
            undoable.play(x);
            x.undo();
        };
        same("undo() of " + call, there, thereAndBack);
    }

    private void same(String what, Scene one, Scene other) {
        if (!everything(one).equals(everything(other))) {
            check.report(what + ": not so");
        }
    }

    private static Class<?> thrownBy(LedgerStore x, Scene call) {
        try {
            call.play(x);
        } catch (RuntimeException e) {
            return e.getClass();
        }
        return null;
    }

    private static String everything(Scene scene) {
        StringBuilder all = new StringBuilder();
        for (int back = 0; back <= 5; back++) {
            LedgerStore x = after(scene);
            LedgerStore y = after(scene);
            for (int i = 0; i < back; i++) {
                tell(all, () -> x.undo());
                tell(all, () -> y.undo());
            }
            tellInboxes(all, x);
            tellRecoveries(all, y);
        }
        return all.toString();
    }

    private static void tellInboxes(StringBuilder all, LedgerStore x) {
        all.append(x.digest()).append(' ');
        for (int node = 0; node < 8; node++) {
            int n = node;
            for (int i = 0; i < DELIVERIES; i++) {
                tell(all, () -> x.deliver(n));
            }
            all.append(x.digest()).append(' ');
        }
        tell(all, () -> x.deliverAll());
        all.append(x.digest()).append('\n');
    }

    private static void tellRecoveries(StringBuilder all, LedgerStore x) {
        for (int ledger = 0; ledger < 4; ledger++) {
            int l = ledger;
            tell(all, () -> x.recover(l));
            all.append(x.digest()).append(' ');
        }
        all.append('\n');
    }

    private static void tell(StringBuilder all, Question question) {
        try {
            all.append(question.ask());
        } catch (RuntimeException e) {
            all.append(e.getClass().getName());
        }
        all.append(' ');
    }
}
