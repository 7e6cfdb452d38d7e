/**
 * EXCEPTIONS: a test for every row of the document that begins with "Throws", with what the call throws and
 * that it changes nothing, hidden things too; the same for the calls that only ask.
 */
public final class RefusalTest {
    private static final Check check = new Check();
    private static final Twins twins = new Twins(check);

    public static void main(String[] args) {
        newObjectRefuses();
        addNodeRefuses();
        crashRefuses();
        restartRefuses();
        deliverRefuses();
        nodeQuestionsRefuse();
        isFencedRefuses();
        createLedgerRefuses();
        appendRefuses();
        replaceRefuses();
        recoverRefuses();
        repairRefuses();
        readRefuses();
        ledgerQuestionsRefuse();
        entryQuestionsRefuse();
        fragmentQuestionsRefuse();
        undoRefuses();
        createLedgerWithBoth();
        appendWithBoth();
        replaceWithBoth();
        readWithBoth();
        questionsChangeNothing();
        check.finish("RefusalTest");
    }

    private static void badArgument(String call, Twins.Scene refused) {
        twins.badArgument(call, Stores::busy, refused);
    }

    private static void badState(String call, Twins.Scene refused) {
        twins.badState(call, Stores::busy, refused);
    }

    private static void newObject(LedgerStore x) {
    }

    // ---- a row each

    private static void newObjectRefuses() {
        check.part("a store without nodes and ledgers, with an empty undo stack");
        Twins.Scene none = RefusalTest::newObject;
        twins.badArgument("crash(0)", none, x -> x.crash(0));
        twins.badArgument("restart(0)", none, x -> x.restart(0));
        twins.badArgument("deliver(0)", none, x -> x.deliver(0));
        twins.badArgument("inboxLength(0)", none, x -> x.inboxLength(0));
        twins.badArgument("weight(0)", none, x -> x.weight(0));
        twins.badArgument("share(0)", none, x -> x.share(0));
        twins.badArgument("isFenced(0, 0)", none, x -> x.isFenced(0, 0));
        twins.badArgument("append(0, 0)", none, x -> x.append(0, 0));
        twins.badArgument("replace(0, 0)", none, x -> x.replace(0, 0));
        twins.badArgument("recover(0)", none, x -> x.recover(0));
        twins.badArgument("repair(0)", none, x -> x.repair(0));
        twins.badArgument("read(0, 0)", none, x -> x.read(0, 0));
        twins.badArgument("state(0)", none, x -> x.state(0));
        twins.badArgument("acknowledgements(0, 0)", none, x -> x.acknowledgements(0, 0));
        twins.badArgument("holders(0, 0)", none, x -> x.holders(0, 0));
        twins.badArgument("firstEntry(0, 0)", none, x -> x.firstEntry(0, 0));
        twins.badArgument("member(0, 0, 0)", none, x -> x.member(0, 0, 0));
        twins.badArgument("createLedger(0, 0, 0)", none, x -> x.createLedger(0, 0, 0));
        twins.badState("createLedger(1, 1, 1)", none, x -> x.createLedger(1, 1, 1));
        twins.badState("undo()", none, x -> x.undo());
    }

    private static void addNodeRefuses() {
        check.part("addNode: if there are 8 nodes");
        twins.badState("addNode()", x -> {
            Stores.busy(x);
            Stores.addNodes(x, 3);
        }, x -> x.addNode());
    }

    private static void crashRefuses() {
        check.part("crash: if there is no such node; if it is down already");
        badArgument("crash(5)", x -> x.crash(5));
        badArgument("crash(-1)", x -> x.crash(-1));
        badState("crash(1)", x -> x.crash(1));
    }

    private static void restartRefuses() {
        check.part("restart: if there is no such node; if it is up already");
        badArgument("restart(5)", x -> x.restart(5));
        badArgument("restart(-1)", x -> x.restart(-1));
        badState("restart(0)", x -> x.restart(0));
        badState("restart(4)", x -> x.restart(4));
    }

    private static void deliverRefuses() {
        check.part("deliver: if there is no such node; if the node is down");
        badArgument("deliver(5)", x -> x.deliver(5));
        badArgument("deliver(-1)", x -> x.deliver(-1));
        badState("deliver(1)", x -> x.deliver(1));
    }

    private static void nodeQuestionsRefuse() {
        check.part("inboxLength, weight, share: if there is no such node");
        badArgument("inboxLength(5)", x -> x.inboxLength(5));
        badArgument("inboxLength(-1)", x -> x.inboxLength(-1));
        badArgument("weight(5)", x -> x.weight(5));
        badArgument("weight(-1)", x -> x.weight(-1));
        badArgument("share(5)", x -> x.share(5));
        badArgument("share(-1)", x -> x.share(-1));
    }

    private static void isFencedRefuses() {
        check.part("isFenced: if there is no such node or ledger");
        badArgument("isFenced(5, 0)", x -> x.isFenced(5, 0));
        badArgument("isFenced(-1, 0)", x -> x.isFenced(-1, 0));
        badArgument("isFenced(0, 3)", x -> x.isFenced(0, 3));
        badArgument("isFenced(0, -1)", x -> x.isFenced(0, -1));
        badArgument("isFenced(5, 3)", x -> x.isFenced(5, 3));
    }

    private static void createLedgerRefuses() {
        check.part("createLedger: if an argument is out of range; if there are 4 ledgers or too few are up");
        badArgument("createLedger(0, 1, 1)", x -> x.createLedger(0, 1, 1));
        badArgument("createLedger(6, 1, 1)", x -> x.createLedger(6, 1, 1));
        badArgument("createLedger(3, 0, 1)", x -> x.createLedger(3, 0, 1));
        badArgument("createLedger(3, 4, 1)", x -> x.createLedger(3, 4, 1));
        badArgument("createLedger(3, 2, 0)", x -> x.createLedger(3, 2, 0));
        badArgument("createLedger(3, 2, 3)", x -> x.createLedger(3, 2, 3));
        badState("createLedger(5, 1, 1) with 4 nodes up", x -> x.createLedger(5, 1, 1));
        twins.badState("createLedger(1, 1, 1) with 4 ledgers", RefusalTest::fourLedgers,
                x -> x.createLedger(1, 1, 1));
    }

    private static void fourLedgers(LedgerStore x) {
        Stores.busy(x);
        x.createLedger(4, 1, 1);
    }

    private static void appendRefuses() {
        check.part("append: if an argument is out of range; if the ledger is not OPEN or has 40 entries");
        badArgument("append(3, 0)", x -> x.append(3, 0));
        badArgument("append(-1, 0)", x -> x.append(-1, 0));
        badArgument("append(0, -1)", x -> x.append(0, -1));
        badArgument("append(0, 1000)", x -> x.append(0, 1000));
        badState("append(1, 0), CLOSED", x -> x.append(1, 0));
        badState("append(2, 0), RECOVERING", x -> x.append(2, 0));
        twins.badState("append(0, 0) with 40 entries", RefusalTest::fullLedger, x -> x.append(0, 0));
    }

    private static void fullLedger(LedgerStore x) {
        Stores.busy(x);
        Stores.appendMany(x, 0, 34);
    }

    private static void replaceRefuses() {
        check.part("replace: if an argument is out of range; if the ledger is not OPEN, or no node can be chosen");
        badArgument("replace(3, 0)", x -> x.replace(3, 0));
        badArgument("replace(-1, 0)", x -> x.replace(-1, 0));
        badArgument("replace(0, 3)", x -> x.replace(0, 3));
        badArgument("replace(0, -1)", x -> x.replace(0, -1));
        badState("replace(1, 1), CLOSED", x -> x.replace(1, 1));
        badState("replace(2, 1), RECOVERING", x -> x.replace(2, 1));
        twins.badState("replace(0, 1), no node to choose", RefusalTest::noSpare, x -> x.replace(0, 1));
    }

    private static void noSpare(LedgerStore x) {
        Stores.busy(x);
        x.crash(3);
        x.crash(4);
    }

    private static void recoverRefuses() {
        check.part("recover: if there is no such ledger; if the ledger is CLOSED");
        badArgument("recover(3)", x -> x.recover(3));
        badArgument("recover(-1)", x -> x.recover(-1));
        badState("recover(1)", x -> x.recover(1));
    }

    private static void repairRefuses() {
        check.part("repair: if there is no such ledger; if the ledger is not CLOSED");
        badArgument("repair(3)", x -> x.repair(3));
        badArgument("repair(-1)", x -> x.repair(-1));
        badState("repair(0), OPEN", x -> x.repair(0));
        badState("repair(2), RECOVERING", x -> x.repair(2));
    }

    private static void readRefuses() {
        check.part("read: if there is no such ledger or entry is negative; if the entry is not readable");
        badArgument("read(3, 0)", x -> x.read(3, 0));
        badArgument("read(-1, 0)", x -> x.read(-1, 0));
        badArgument("read(0, -1)", x -> x.read(0, -1));
        badState("read(0, 3), not confirmed", x -> x.read(0, 3));
        badState("read(0, 6), not appended", x -> x.read(0, 6));
        badState("read(0, 40), never an entry", x -> x.read(0, 40));
        badState("read(1, 1), behind the last entry", x -> x.read(1, 1));
        badState("read(2, 0), RECOVERING", x -> x.read(2, 0));
    }

    private static void ledgerQuestionsRefuse() {
        check.part("state, lastReadable, appended, fragmentCount, underReplicated: if there is no such ledger");
        for (int ledger : new int[] {-1, 3}) {
            badArgument("state(" + ledger + ")", x -> x.state(ledger));
            badArgument("lastReadable(" + ledger + ")", x -> x.lastReadable(ledger));
            badArgument("appended(" + ledger + ")", x -> x.appended(ledger));
            badArgument("fragmentCount(" + ledger + ")", x -> x.fragmentCount(ledger));
            badArgument("underReplicated(" + ledger + ")", x -> x.underReplicated(ledger));
        }
    }

    private static void entryQuestionsRefuse() {
        check.part("acknowledgements, holders: if there is no such ledger or entry");
        int[][] wrong = {{3, 0}, {-1, 0}, {0, 6}, {0, -1}, {1, 1}, {3, -1}};
        for (int[] a : wrong) {
            badArgument("acknowledgements(" + a[0] + ", " + a[1] + ")", x -> x.acknowledgements(a[0], a[1]));
            badArgument("holders(" + a[0] + ", " + a[1] + ")", x -> x.holders(a[0], a[1]));
        }
    }

    private static void fragmentQuestionsRefuse() {
        check.part("firstEntry, member: if there is no such ledger, fragment or position");
        int[][] wrong = {{3, 0, 0}, {-1, 0, 0}, {0, 1, 0}, {0, -1, 0}};
        for (int[] a : wrong) {
            badArgument("firstEntry(" + a[0] + ", " + a[1] + ")", x -> x.firstEntry(a[0], a[1]));
            badArgument("member(" + a[0] + ", " + a[1] + ", 0)", x -> x.member(a[0], a[1], a[2]));
        }
        badArgument("member(0, 0, 3)", x -> x.member(0, 0, 3));
        badArgument("member(1, 0, 2)", x -> x.member(1, 0, 2));
        badArgument("member(0, 0, -1)", x -> x.member(0, 0, -1));
    }

    private static void undoRefuses() {
        check.part("undo: if the stack is empty");
        twins.badState("undo()", x -> {
            Stores.busy(x);
            for (int i = 0; i < 4; i++) {
                x.undo();
            }
        }, x -> x.undo());
    }

    // ---- if both apply, IllegalArgumentException is thrown

    private static void createLedgerWithBoth() {
        check.part("if both apply: createLedger out of range with 4 ledgers, or with too few nodes");
        int[][] wrong = {{0, 1, 1}, {6, 1, 1}, {5, 6, 1}, {5, 0, 1}, {5, 5, 0}, {5, 4, 5}};
        for (int[] a : wrong) {
            twins.badArgument("createLedger with 4 ledgers", RefusalTest::fourLedgers,
                    x -> x.createLedger(a[0], a[1], a[2]));
            badArgument("createLedger with 4 nodes up", x -> x.createLedger(a[0], a[1], a[2]));
            twins.badArgument("createLedger without nodes", RefusalTest::newObject,
                    x -> x.createLedger(a[0], a[1], a[2]));
        }
    }

    private static void appendWithBoth() {
        check.part("if both apply: append out of range to a ledger that is not OPEN, or has 40 entries");
        for (int payload : new int[] {-1, 1000}) {
            badArgument("append(1, " + payload + ")", x -> x.append(1, payload));
            badArgument("append(2, " + payload + ")", x -> x.append(2, payload));
            twins.badArgument("append(0, " + payload + ")", RefusalTest::fullLedger, x -> x.append(0, payload));
        }
    }

    private static void replaceWithBoth() {
        check.part("if both apply: replace out of range in a ledger that is not OPEN, or with no node to choose");
        for (int position : new int[] {-1, 3}) {
            badArgument("replace(1, " + position + ")", x -> x.replace(1, position));
            badArgument("replace(2, " + position + ")", x -> x.replace(2, position));
            twins.badArgument("replace(0, " + position + ")", RefusalTest::noSpare, x -> x.replace(0, position));
        }
        badArgument("replace(1, 2), E is 2", x -> x.replace(1, 2));
    }

    private static void readWithBoth() {
        check.part("if both apply: read of a negative entry where nothing is readable");
        badArgument("read(2, -1), RECOVERING", x -> x.read(2, -1));
        twins.badArgument("read(0, -1), empty", x -> {
            x.addNode();
            x.createLedger(1, 1, 1);
        }, x -> x.read(0, -1));
    }

    // ---- calls that only ask

    private static void questionsChangeNothing() {
        check.part("a call that is not marked undoable saves nothing and changes nothing");
        asks("inboxLength(0)", x -> x.inboxLength(0));
        asks("weight(0)", x -> x.weight(0));
        asks("share(0)", x -> x.share(0));
        asks("isFenced(0, 1)", x -> x.isFenced(0, 1));
        asks("rejections()", x -> x.rejections());
        asks("read(0, 0)", x -> x.read(0, 0));
        asks("state(0)", x -> x.state(0));
        asks("lastReadable(0)", x -> x.lastReadable(0));
        asks("appended(0)", x -> x.appended(0));
        asks("acknowledgements(0, 0)", x -> x.acknowledgements(0, 0));
        asks("holders(0, 0)", x -> x.holders(0, 0));
        asks("fragmentCount(0)", x -> x.fragmentCount(0));
        asks("firstEntry(0, 0)", x -> x.firstEntry(0, 0));
        asks("member(0, 0, 0)", x -> x.member(0, 0, 0));
        asks("underReplicated(0)", x -> x.underReplicated(0));
        asks("digest()", x -> x.digest());
    }

    private static void asks(String call, Twins.Scene question) {
        twins.leavesNothing(call, Stores::busy, question);
    }
}
