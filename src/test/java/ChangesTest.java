import java.util.ArrayList;
import java.util.List;
import java.util.Map;
import java.util.TreeMap;

/**
 * What each undoable call changes, and that it changes nothing else: every question of the face is asked
 * before and after it, and the answers that differ are told, one by one.
 */
public final class ChangesTest {
    /** A question whose answer, or whose exception, is noted. */
    private interface Question {
        Object ask();
    }

    private static final Check check = new Check();

    public static void main(String[] args) {
        addNode();
        crash();
        restart();
        deliver();
        deliverOfAnEmptyInbox();
        deliverRejects();
        deliverAll();
        createLedger();
        append();
        appendWithAllDown();
        replace();
        replaceForgets();
        recover();
        recoverUndecided();
        recoverUndecidedAgain();
        repair();
        repairOfTwoFragments();
        undo();
        check.finish("ChangesTest");
    }

    // ---- the answers

    private static Map<String, String> answers(LedgerStore x) {
        Map<String, String> all = new TreeMap<>();
        note(all, "rejections()", () -> x.rejections());
        for (int node = 0; node < 8; node++) {
            answersOfNode(all, x, node);
        }
        for (int ledger = 0; ledger < 4; ledger++) {
            answersOfLedger(all, x, ledger);
        }
        return all;
    }

    private static void answersOfNode(Map<String, String> all, LedgerStore x, int node) {
        note(all, "inboxLength(" + node + ")", () -> x.inboxLength(node));
        note(all, "weight(" + node + ")", () -> x.weight(node));
        note(all, "share(" + node + ")", () -> x.share(node));
        for (int l = 0; l < 4; l++) {
            int ledger = l;
            note(all, "isFenced(" + node + ", " + ledger + ")", () -> x.isFenced(node, ledger));
        }
    }

    private static void answersOfLedger(Map<String, String> all, LedgerStore x, int ledger) {
        note(all, "state(" + ledger + ")", () -> x.state(ledger));
        note(all, "lastReadable(" + ledger + ")", () -> x.lastReadable(ledger));
        note(all, "appended(" + ledger + ")", () -> x.appended(ledger));
        note(all, "fragmentCount(" + ledger + ")", () -> x.fragmentCount(ledger));
        note(all, "underReplicated(" + ledger + ")", () -> x.underReplicated(ledger));
        for (int e = 0; e < 7; e++) {
            int entry = e;
            String of = "(" + ledger + ", " + entry + ")";
            note(all, "read" + of, () -> x.read(ledger, entry));
            note(all, "acknowledgements" + of, () -> x.acknowledgements(ledger, entry));
            note(all, "holders" + of, () -> x.holders(ledger, entry));
        }
        for (int f = 0; f < 3; f++) {
            int fragment = f;
            note(all, "firstEntry(" + ledger + ", " + fragment + ")", () -> x.firstEntry(ledger, fragment));
            for (int p = 0; p < 4; p++) {
                int position = p;
                note(all, "member(" + ledger + ", " + fragment + ", " + position + ")",
                        () -> x.member(ledger, fragment, position));
            }
        }
    }

    private static void note(Map<String, String> all, String question, Question asked) {
        String answer;
        try {
            answer = String.valueOf(asked.ask());
        } catch (RuntimeException e) {
            answer = "throws " + e.getClass().getSimpleName();
        }
        all.put(question, answer);
    }

    // ---- the comparison

    private static void changes(String call, Twins.Scene before, Twins.Scene changing, String... due) {
        check.part("what " + call + " changes");
        Map<String, String> old = answers(Twins.after(before));
        LedgerStore x = Twins.after(before);
        changing.play(x);
        List<String> got = new ArrayList<>();
        for (Map.Entry<String, String> now : answers(x).entrySet()) {
            if (!now.getValue().equals(old.get(now.getKey()))) {
                got.add(now.getKey() + " = " + now.getValue());
            }
        }
        List<String> wanted = new ArrayList<>(List.of(due));
        wanted.sort(null);
        got.sort(null);
        if (!got.equals(wanted)) {
            check.report("changed are " + got + ", due are " + wanted);
        }
    }

    private static String share(int node, int weight, int sum) {
        return "share(" + node + ") = " + (float) weight / (float) sum;
    }

    // ---- the calls, on the store that Stores.busy tells

    private static void addNode() {
        changes("addNode()", Stores::busy, x -> x.addNode(),
                "inboxLength(5) = 0", "weight(5) = 0", "share(5) = 0.0",
                "isFenced(5, 0) = false", "isFenced(5, 1) = false", "isFenced(5, 2) = false");
    }

    private static void crash() {
        changes("crash(0)", Stores::busy, x -> x.crash(0),
                "inboxLength(0) = 0", "read(0, 0) = -1", "read(1, 0) = -1", "underReplicated(0) = 3");
    }

    private static void restart() {
        changes("restart(1)", Stores::busy, x -> x.restart(1), "underReplicated(0) = 0", "underReplicated(1) = 0");
    }

    private static void deliver() {
        changes("deliver(2)", Stores::busy, x -> x.deliver(2),
                "inboxLength(2) = 1", "weight(2) = 3", share(0, 5, 12), share(1, 4, 12), share(2, 3, 12),
                "acknowledgements(0, 4) = 1", "holders(0, 4) = 4");
    }

    private static void deliverOfAnEmptyInbox() {
        changes("deliver(3) of an empty inbox", Stores::busy, x -> x.deliver(3));
    }

    private static void deliverRejects() {
        changes("deliver(0) of a fenced node", x -> {
            Stores.busy(x);
            x.recover(0);
        }, x -> x.deliver(0), "inboxLength(0) = 0", "rejections() = 1");
    }

    private static void deliverAll() {
        changes("deliverAll()", Stores::busy, x -> x.deliverAll(),
                "inboxLength(0) = 0", "inboxLength(2) = 0", "weight(0) = 6", "weight(2) = 4",
                share(0, 6, 14), share(1, 4, 14), share(2, 4, 14),
                "acknowledgements(0, 4) = 1", "acknowledgements(0, 5) = 2", "holders(0, 4) = 4", "holders(0, 5) = 5");
    }

    private static void createLedger() {
        changes("createLedger(4, 2, 1)", Stores::busy, x -> x.createLedger(4, 2, 1),
                "state(3) = 0", "lastReadable(3) = -1", "appended(3) = 0", "fragmentCount(3) = 1",
                "underReplicated(3) = 0", "firstEntry(3, 0) = 0",
                "member(3, 0, 0) = 3", "member(3, 0, 1) = 4", "member(3, 0, 2) = 2", "member(3, 0, 3) = 0",
                "isFenced(0, 3) = false", "isFenced(1, 3) = false", "isFenced(2, 3) = false",
                "isFenced(3, 3) = false", "isFenced(4, 3) = false",
                "read(3, 0) = throws IllegalStateException", "read(3, 1) = throws IllegalStateException",
                "read(3, 2) = throws IllegalStateException", "read(3, 3) = throws IllegalStateException",
                "read(3, 4) = throws IllegalStateException", "read(3, 5) = throws IllegalStateException",
                "read(3, 6) = throws IllegalStateException");
    }

    private static void append() {
        changes("append(0, 999)", Stores::busy, x -> x.append(0, 999),
                "appended(0) = 7", "inboxLength(0) = 2", "acknowledgements(0, 6) = 0", "holders(0, 6) = 0");
    }

    private static void appendWithAllDown() {
        changes("append(0, 999) with its write set down", x -> {
            Stores.busy(x);
            x.crash(0);
        }, x -> x.append(0, 999), "appended(0) = 7", "acknowledgements(0, 6) = 0", "holders(0, 6) = 0");
    }

    private static void replace() {
        changes("replace(0, 1)", Stores::busy, x -> x.replace(0, 1),
                "fragmentCount(0) = 2", "firstEntry(0, 1) = 3",
                "member(0, 1, 0) = 0", "member(0, 1, 1) = 3", "member(0, 1, 2) = 2", "inboxLength(3) = 2");
    }

    private static void replaceForgets() {
        changes("replace(0, 0)", Stores::busy, x -> x.replace(0, 0),
                "fragmentCount(0) = 2", "firstEntry(0, 1) = 3",
                "member(0, 1, 0) = 3", "member(0, 1, 1) = 1", "member(0, 1, 2) = 2", "inboxLength(3) = 2",
                "acknowledgements(0, 3) = 0");
    }

    private static void recover() {
        changes("recover(0)", Stores::busy, x -> x.recover(0),
                "state(0) = 2", "lastReadable(0) = 3", "read(0, 3) = 0", "underReplicated(0) = 3",
                "isFenced(0, 0) = true", "isFenced(2, 0) = true");
    }

    private static void recoverUndecided() {
        changes("recover(0), undecided", x -> {
            Stores.busy(x);
            x.crash(0);
        }, x -> x.recover(0),
                "state(0) = 1", "lastReadable(0) = -1", "underReplicated(0) = 0", "isFenced(2, 0) = true",
                "read(0, 0) = throws IllegalStateException", "read(0, 1) = throws IllegalStateException",
                "read(0, 2) = throws IllegalStateException");
    }

    private static void recoverUndecidedAgain() {
        changes("recover(2), undecided as before", Stores::busy, x -> x.recover(2));
    }

    private static void repair() {
        changes("repair(1)", Stores::busy, x -> x.repair(1),
                "member(1, 0, 1) = 3", "holders(1, 0) = 11", "underReplicated(1) = 0", "weight(3) = 1",
                share(0, 5, 12), share(1, 4, 12), share(2, 2, 12), share(3, 1, 12));
    }

    // Ledger 0 has closed with its last entry 2, the last of the first fragment; the second fragment's
    // requests still wait at the nodes 2 and 3, which are fenced.
    private static void repairOfTwoFragments() {
        changes("repair(0) of two fragments", x -> {
            Stores.busy(x);
            x.replace(0, 0);
            x.recover(0);
            x.restart(1);
            x.crash(0);
        }, x -> x.repair(0),
                "member(0, 0, 0) = 3", "holders(0, 0) = 11", "holders(0, 2) = 13", "underReplicated(0) = 0",
                "weight(3) = 2", share(0, 5, 13), share(1, 4, 13), share(2, 2, 13), share(3, 2, 13));
    }

    private static void undo() {
        changes("undo() of deliver(0)", Stores::busy, x -> x.undo(),
                "inboxLength(0) = 2", "weight(0) = 4", share(0, 4, 10), share(1, 4, 10), share(2, 2, 10),
                "acknowledgements(0, 3) = 0", "holders(0, 3) = 0");
    }
}
