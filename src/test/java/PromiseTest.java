/** Each promise of the document by ordinary inputs, by the edges it names, and by wrong inputs. */
public final class PromiseTest {
    private static final int MIN = Stores.MIN;
    private static final int MAX = Stores.MAX;
    private static final Check check = new Check();

    public static void main(String[] args) {
        newObject();
        addNode();
        crash();
        restart();
        deliver();
        deliverAcknowledges();
        deliverAll();
        inboxLength();
        weight();
        share();
        isFenced();
        rejections();
        createLedger();
        append();
        appendCarriesConfirmed();
        replace();
        replaceBeginsFragment();
        replaceForgets();
        replaceAtTheEnd();
        recover();
        recoverUndecided();
        recoverFromStoredConfirmed();
        recoverNothing();
        repair();
        repairChooses();
        read();
        stateOf();
        lastReadable();
        appended();
        acknowledgements();
        holders();
        fragments();
        underReplicated();
        undo();
        digest();
        check.finish("PromiseTest");
    }

    // ---- promise 1

    private static void newObject() {
        check.part("promise 1, a new object");
        LedgerStore x = new LedgerStore();
        check.badArgument(x, "weight(0)", () -> x.weight(0));
        check.badArgument(x, "state(0)", () -> x.state(0));
        check.badState(x, "undo()", () -> x.undo());
        check.due("rejections()", x.rejections(), 0);
        long h = 12109L;
        check.due("digest()", x.digest(), (((h * 31) * 31) * 31) * 31);
    }

    // ---- promises 2 to 11: nodes

    private static void addNode() {
        check.part("promise 2, addNode");
        LedgerStore x = new LedgerStore();
        for (int n = 0; n < 8; n++) {
            check.due("addNode()", x.addNode(), n);
            check.due("weight of the new node", x.weight(n), 0);
            check.due("inbox of the new node", x.inboxLength(n), 0);
            int added = n;
            check.badState(x, "restart of the new node, which is up", () -> x.restart(added));
        }
        check.due("undo() in between", x.undo(), 3);
        check.due("addNode() after it", x.addNode(), 7);
        check.badState(x, "addNode() with 8 nodes", () -> x.addNode());
        check.badArgument(x, "weight(8)", () -> x.weight(8));
    }

    private static void crash() {
        check.part("promise 3, crash");
        LedgerStore x = Stores.withLedger(2, 2, 2, 1);
        Stores.appendMany(x, 0, 3);
        x.deliver(1);
        check.due("crash(0)", x.crash(0), 3);
        check.due("crash(1)", x.crash(1), 2);
        check.due("inboxLength(1)", x.inboxLength(1), 0);
        check.due("weight(1): what is stored survives", x.weight(1), 1);
        check.badState(x, "crash(1) again", () -> x.crash(1));
        check.badArgument(x, "crash(2)", () -> x.crash(2));
        check.badArgument(x, "crash(-1)", () -> x.crash(-1));
        check.badArgument(x, "crash(MIN)", () -> x.crash(MIN));
        check.badArgument(x, "crash(MAX)", () -> x.crash(MAX));
        x.restart(1);
        check.due("deliver(1): the inbox did not survive", x.deliver(1), -1);
        check.due("crash of a node with an empty inbox", x.crash(1), 0);
    }

    private static void restart() {
        check.part("promise 4, restart");
        LedgerStore x = Stores.withLedger(2, 2, 2, 2);
        Stores.appendMany(x, 0, 2);
        x.deliverAll();
        x.crash(0);
        x.append(0, 7);
        check.due("restart(0)", x.restart(0), 2);
        check.due("inboxLength(0): a request to a node that is down is lost", x.inboxLength(0), 0);
        x.append(0, 8);
        check.due("inboxLength(0)", x.inboxLength(0), 1);
        check.badState(x, "restart(0) again", () -> x.restart(0));
        check.badArgument(x, "restart(2)", () -> x.restart(2));
        check.badArgument(x, "restart(-1)", () -> x.restart(-1));
        x.recover(0);
        x.crash(0);
        x.restart(0);
        check.due("isFenced(0, 0): a fence survives", x.isFenced(0, 0), true);
    }

    private static void deliver() {
        check.part("promise 5, deliver");
        LedgerStore x = Stores.withLedger(2, 1, 1, 1);
        check.due("deliver of an empty inbox", x.deliver(0), -1);
        Stores.appendMany(x, 0, 2);
        check.due("deliver(0)", x.deliver(0), 1);
        check.due("holders(0, 0): the oldest comes first", x.holders(0, 0), 1);
        check.due("holders(0, 1)", x.holders(0, 1), 0);
        check.due("inboxLength(0)", x.inboxLength(0), 1);
        x.recover(0);
        check.due("deliver(0) to a fenced node", x.deliver(0), 0);
        check.due("inboxLength(0)", x.inboxLength(0), 0);
        check.due("holders(0, 1)", x.holders(0, 1), 0);
        check.due("undo() of deliver", x.undo(), 3);
        check.due("inboxLength(0)", x.inboxLength(0), 1);
        x.crash(1);
        check.badState(x, "deliver(1) to a node that is down", () -> x.deliver(1));
        check.badArgument(x, "deliver(2)", () -> x.deliver(2));
        check.badArgument(x, "deliver(-1)", () -> x.deliver(-1));
    }

    private static void deliverAcknowledges() {
        check.part("promise 5, what a delivery acknowledges");
        LedgerStore x = Stores.withLedger(3, 2, 2, 2);
        x.append(0, 5);
        check.due("replace(0, 0)", x.replace(0, 0), 2);
        check.due("deliver(0) by a node that left the write set", x.deliver(0), 1);
        check.due("acknowledgements(0, 0)", x.acknowledgements(0, 0), 0);
        check.due("holders(0, 0)", x.holders(0, 0), 1);
        check.due("deliver(1)", x.deliver(1), 1);
        check.due("acknowledgements(0, 0)", x.acknowledgements(0, 0), 1);
        LedgerStore y = Stores.withLedger(3, 2, 2, 1);
        y.append(0, 5);
        y.deliver(1);
        y.replace(0, 0);
        check.due("fragmentCount(0)", y.fragmentCount(0), 2);
        check.due("deliver(0) by a node of an earlier write set", y.deliver(0), 1);
        check.due("acknowledgements(0, 0)", y.acknowledgements(0, 0), 2);
        y.undo();
        y.recover(0);
        check.due("deliver(0) outside the fenced ensemble", y.deliver(0), 1);
        check.due("holders(0, 0)", y.holders(0, 0), 3);
        check.due("acknowledgements(0, 0) when the ledger is closed", y.acknowledgements(0, 0), 1);
        LedgerStore z = Stores.withLedger(2, 2, 2, 1);
        z.crash(1);
        z.recover(0);
        z.restart(1);
        check.due("state(0)", z.state(0), 1);
        check.due("isFenced(1, 0): it was down", z.isFenced(1, 0), false);
    }

    private static void deliverAll() {
        check.part("promise 6, deliverAll");
        LedgerStore x = Stores.withLedger(3, 3, 2, 2);
        check.due("deliverAll() with nothing to do", x.deliverAll(), 0);
        Stores.appendMany(x, 0, 4);
        x.crash(2);
        check.due("deliverAll()", x.deliverAll(), 6);
        check.due("inboxLength(0)", x.inboxLength(0), 0);
        check.due("inboxLength(1)", x.inboxLength(1), 0);
        check.due("undo(): one saved state", x.undo(), 3);
        check.due("inboxLength(0)", x.inboxLength(0), 3);
        check.due("weight(0)", x.weight(0), 0);
        x.recover(0);
        check.due("deliverAll() to fenced nodes", x.deliverAll(), 0);
        check.due("rejections()", x.rejections(), 6);
    }

    private static void inboxLength() {
        check.part("promise 7, inboxLength");
        LedgerStore x = Stores.withNodes(1);
        for (int l = 0; l < 4; l++) {
            x.createLedger(1, 1, 1);
        }
        for (int i = 0; i < 99; i++) {
            x.append(i % 4, i);
        }
        check.due("inboxLength(0)", x.inboxLength(0), 99);
        x.append(3, 99);
        check.due("inboxLength(0)", x.inboxLength(0), 100);
        check.due("append to a full inbox", x.append(0, 500), 25);
        check.due("inboxLength(0): the request is lost", x.inboxLength(0), 100);
        x.deliver(0);
        check.due("append", x.append(0, 501), 26);
        check.due("inboxLength(0)", x.inboxLength(0), 100);
        check.due("deliverAll()", x.deliverAll(), 100);
        check.due("holders of the lost entry", x.holders(0, 25), 0);
        check.due("holders of the entry behind it", x.holders(0, 26), 1);
        check.due("lastReadable(0)", x.lastReadable(0), 24);
        check.badArgument(x, "inboxLength(1)", () -> x.inboxLength(1));
        check.badArgument(x, "inboxLength(-1)", () -> x.inboxLength(-1));
    }

    private static void weight() {
        check.part("promise 8, weight");
        LedgerStore x = Stores.withLedger(2, 2, 2, 2);
        x.createLedger(1, 1, 1);
        Stores.appendMany(x, 0, 3);
        Stores.appendMany(x, 1, 2);
        x.deliverAll();
        check.due("weight(0): of all ledgers together", x.weight(0), 5);
        check.due("weight(1)", x.weight(1), 3);
        check.badArgument(x, "weight(2)", () -> x.weight(2));
        check.badArgument(x, "weight(-1)", () -> x.weight(-1));
        LedgerStore y = Stores.withLedger(3, 2, 2, 2);
        y.append(0, 1);
        y.deliver(1);
        y.replace(0, 1);
        y.replace(0, 0);
        y.deliverAll();
        check.due("weight(0)", y.weight(0), 1);
        check.due("weight(1): an entry that comes again counts once", y.weight(1), 1);
    }

    private static void share() {
        check.part("promise 9, share");
        LedgerStore x = Stores.withLedger(4, 3, 2, 2);
        check.dueFloat("share(0) with nothing stored", x.share(0), 0.0f);
        Stores.appendMany(x, 0, 7);
        x.deliver(0);
        check.dueFloat("share(0) with all", x.share(0), 1.0f);
        check.dueFloat("share(1) with none", x.share(1), 0.0f);
        x.deliverAll();
        check.dueFloat("share(0)", x.share(0), 5f / 14f);
        check.dueFloat("share(1)", x.share(1), 5f / 14f);
        check.dueFloat("share(2)", x.share(2), 4f / 14f);
        x.crash(2);
        check.dueFloat("share(2) of a node that is down", x.share(2), 4f / 14f);
        check.badArgument(x, "share(4)", () -> x.share(4));
        check.badArgument(x, "share(-1)", () -> x.share(-1));
    }

    private static void isFenced() {
        check.part("promise 10, isFenced");
        LedgerStore x = Stores.withLedger(4, 2, 2, 2);
        x.createLedger(2, 1, 1);
        check.due("isFenced(0, 0)", x.isFenced(0, 0), false);
        x.recover(0);
        check.due("isFenced(0, 0)", x.isFenced(0, 0), true);
        check.due("isFenced(1, 0)", x.isFenced(1, 0), true);
        check.due("isFenced(2, 0): outside the ensemble", x.isFenced(2, 0), false);
        check.due("isFenced(0, 1): another ledger", x.isFenced(0, 1), false);
        x.recover(1);
        check.due("isFenced(0, 1)", x.isFenced(0, 1), true);
        check.badArgument(x, "isFenced(4, 0)", () -> x.isFenced(4, 0));
        check.badArgument(x, "isFenced(0, 2)", () -> x.isFenced(0, 2));
        check.badArgument(x, "isFenced(-1, 0)", () -> x.isFenced(-1, 0));
        check.badArgument(x, "isFenced(0, -1)", () -> x.isFenced(0, -1));
        LedgerStore y = Stores.withLedger(3, 2, 1, 1);
        Stores.appendMany(y, 0, 1);
        y.deliverAll();
        y.replace(0, 0);
        y.recover(0);
        check.due("isFenced(0, 0): only in an earlier fragment", y.isFenced(0, 0), false);
        check.due("isFenced(2, 0): in the last fragment", y.isFenced(2, 0), true);
    }

    private static void rejections() {
        check.part("promise 11, rejections");
        LedgerStore x = Stores.withLedger(2, 2, 2, 1);
        x.createLedger(2, 2, 1);
        Stores.appendMany(x, 0, 2);
        Stores.appendMany(x, 1, 1);
        check.due("recover(0)", x.recover(0), -1);
        check.due("rejections()", x.rejections(), 0);
        check.due("deliverAll(): the other ledger's entry is stored", x.deliverAll(), 2);
        check.due("rejections()", x.rejections(), 4);
        x.undo();
        check.due("rejections() after undo", x.rejections(), 0);
        check.due("deliver(1)", x.deliver(1), 0);
        check.due("rejections()", x.rejections(), 1);
    }

    // ---- promises 12 to 16: what changes ledgers

    private static void createLedger() {
        check.part("promise 12, createLedger");
        LedgerStore x = Stores.withNodes(5);
        check.badArgument(x, "createLedger(0, 0, 0)", () -> x.createLedger(0, 0, 0));
        check.badArgument(x, "createLedger(6, 5, 5)", () -> x.createLedger(6, 5, 5));
        check.badArgument(x, "createLedger(3, 4, 1)", () -> x.createLedger(3, 4, 1));
        check.badArgument(x, "createLedger(3, 0, 0)", () -> x.createLedger(3, 0, 0));
        check.badArgument(x, "createLedger(3, 2, 3)", () -> x.createLedger(3, 2, 3));
        check.badArgument(x, "createLedger(3, 2, 0)", () -> x.createLedger(3, 2, 0));
        check.badArgument(x, "createLedger(MAX, 1, 1)", () -> x.createLedger(MAX, 1, 1));
        check.badArgument(x, "createLedger(MIN, 1, 1)", () -> x.createLedger(MIN, 1, 1));
        check.due("createLedger(5, 5, 5)", x.createLedger(5, 5, 5), 0);
        check.due("state(0)", x.state(0), 0);
        x.append(0, 1);
        x.deliver(0);
        x.deliver(1);
        x.crash(3);
        check.badState(x, "createLedger(5, 1, 1) with 4 nodes up", () -> x.createLedger(5, 1, 1));
        check.due("createLedger(4, 1, 1)", x.createLedger(4, 1, 1), 1);
        int[] lightestFirst = {2, 4, 0, 1};
        for (int p = 0; p < 4; p++) {
            check.due("member(1, 0, " + p + ")", x.member(1, 0, p), lightestFirst[p]);
        }
        x.createLedger(1, 1, 1);
        check.due("createLedger(1, 1, 1)", x.createLedger(1, 1, 1), 3);
        check.badState(x, "a fifth ledger", () -> x.createLedger(1, 1, 1));
        check.badArgument(x, "a fifth ledger of size 0", () -> x.createLedger(0, 1, 1));
        LedgerStore y = new LedgerStore();
        check.badState(y, "createLedger without nodes", () -> y.createLedger(1, 1, 1));
    }

    private static void append() {
        check.part("promise 13, append");
        LedgerStore x = Stores.withLedger(5, 5, 3, 2);
        check.due("append", x.append(0, 0), 0);
        check.due("append", x.append(0, 999), 1);
        check.due("append", x.append(0, 1), 2);
        check.due("append", x.append(0, 2), 3);
        int[] wantInboxes = {2, 2, 3, 3, 2};
        for (int n = 0; n < 5; n++) {
            check.due("inboxLength(" + n + ")", x.inboxLength(n), wantInboxes[n]);
        }
        check.badArgument(x, "append(0, 1000)", () -> x.append(0, 1000));
        check.badArgument(x, "append(0, -1)", () -> x.append(0, -1));
        check.badArgument(x, "append(1, 0)", () -> x.append(1, 0));
        check.badArgument(x, "append(-1, 0)", () -> x.append(-1, 0));
        for (int e = 4; e < 40; e++) {
            check.due("append", x.append(0, 100), e);
        }
        check.badState(x, "append to a ledger with 40 entries", () -> x.append(0, 0));
        check.badArgument(x, "append(0, 1000) to a ledger with 40 entries", () -> x.append(0, 1000));
        x.deliverAll();
        check.due("read(0, 1)", x.read(0, 1), 999);
        check.due("read(0, 0)", x.read(0, 0), 0);
        LedgerStore y = Stores.withLedger(1, 1, 1, 1);
        y.crash(0);
        y.recover(0);
        check.badState(y, "append to a recovering ledger", () -> y.append(0, 0));
        y.restart(0);
        y.recover(0);
        check.badState(y, "append to a closed ledger", () -> y.append(0, 0));
    }

    // The last confirmed entry of a request is the one of the time when it was sent.
    private static void appendCarriesConfirmed() {
        check.part("promise 13, the last confirmed entry in a request");
        LedgerStore x = Stores.withLedger(3, 3, 3, 1);
        x.append(0, 10);
        x.append(0, 11);
        x.deliver(0);
        x.deliver(0);
        check.due("lastReadable(0)", x.lastReadable(0), 1);
        x.append(0, 12);
        x.deliver(1);
        x.deliver(1);
        x.crash(0);
        check.due("recover(0) with one quorum member down", x.recover(0), -2);
        LedgerStore y = Stores.withLedger(2, 2, 1, 1);
        y.append(0, 10);
        y.append(0, 11);
        y.deliver(0);
        y.append(0, 12);
        y.append(0, 13);
        y.crash(0);
        y.restart(0);
        check.due("deliver(1) stores entry 1, sent when nothing was confirmed", y.deliver(1), 1);
        check.due("deliver(1) stores entry 3, sent when entry 0 was confirmed", y.deliver(1), 1);
        check.due("recover(0)", y.recover(0), 1);
        check.due("read(0, 1)", y.read(0, 1), 11);
    }

    private static void replace() {
        check.part("promise 14, replace");
        LedgerStore x = Stores.withLedger(4, 2, 2, 2);
        check.badArgument(x, "replace(0, 2)", () -> x.replace(0, 2));
        check.badArgument(x, "replace(0, -1)", () -> x.replace(0, -1));
        check.badArgument(x, "replace(1, 0)", () -> x.replace(1, 0));
        check.badArgument(x, "replace(-1, 0)", () -> x.replace(-1, 0));
        check.due("replace(0, 1)", x.replace(0, 1), 2);
        check.due("fragmentCount(0): entry 0 is not confirmed", x.fragmentCount(0), 1);
        check.due("member(0, 0, 0)", x.member(0, 0, 0), 0);
        check.due("member(0, 0, 1)", x.member(0, 0, 1), 2);
        x.append(0, 1);
        x.deliver(2);
        x.replace(0, 1);
        check.due("member(0, 0, 1): the lightest, of several the lowest", x.member(0, 0, 1), 1);
        check.due("inboxLength(1)", x.inboxLength(1), 1);
        x.crash(3);
        check.due("replace(0, 1): the only node up outside the ensemble", x.replace(0, 1), 2);
        x.crash(1);
        check.badState(x, "replace(0, 1) with no node to choose", () -> x.replace(0, 1));
        x.restart(1);
        x.recover(0);
        check.badState(x, "replace(0, 0) in a closed ledger", () -> x.replace(0, 0));
        check.badArgument(x, "replace(0, 2) in a closed ledger", () -> x.replace(0, 2));
    }

    private static void replaceBeginsFragment() {
        check.part("promise 14, a new fragment");
        LedgerStore x = Stores.withLedger(4, 3, 2, 2);
        Stores.appendMany(x, 0, 3);
        x.deliverAll();
        Stores.appendMany(x, 0, 4);
        check.due("replace(0, 2)", x.replace(0, 2), 3);
        check.due("fragmentCount(0)", x.fragmentCount(0), 2);
        check.due("firstEntry(0, 1)", x.firstEntry(0, 1), 3);
        check.due("member(0, 0, 2)", x.member(0, 0, 2), 2);
        check.due("member(0, 1, 0)", x.member(0, 1, 0), 0);
        check.due("member(0, 1, 2)", x.member(0, 1, 2), 3);
        check.due("inboxLength(3): entries 4 and 5, not 3 and 6", x.inboxLength(3), 2);
        check.due("inboxLength(2): requests in inboxes remain", x.inboxLength(2), 2);
        x.deliverAll();
        check.due("holders(0, 4)", x.holders(0, 4), 2 + 4 + 8);
        check.due("holders(0, 5)", x.holders(0, 5), 1 + 4 + 8);
        check.due("holders(0, 6)", x.holders(0, 6), 1 + 2);
        check.due("acknowledgements(0, 4)", x.acknowledgements(0, 4), 2);
        check.due("lastReadable(0)", x.lastReadable(0), 6);
    }

    private static void replaceForgets() {
        check.part("promise 14, forgotten acknowledgements");
        LedgerStore x = Stores.withLedger(3, 2, 2, 2);
        Stores.appendMany(x, 0, 2);
        x.deliver(0);
        x.deliver(0);
        x.deliver(1);
        check.due("acknowledgements(0, 0)", x.acknowledgements(0, 0), 2);
        check.due("acknowledgements(0, 1)", x.acknowledgements(0, 1), 1);
        x.replace(0, 0);
        check.due("acknowledgements(0, 0): confirmed before", x.acknowledgements(0, 0), 2);
        check.due("acknowledgements(0, 1): forgotten", x.acknowledgements(0, 1), 0);
        x.deliver(1);
        check.due("acknowledgements(0, 1)", x.acknowledgements(0, 1), 1);
        x.deliver(2);
        check.due("acknowledgements(0, 1)", x.acknowledgements(0, 1), 2);
        check.due("lastReadable(0)", x.lastReadable(0), 1);
        x.append(0, 5);
        x.deliver(1);
        x.replace(0, 0);
        check.due("acknowledgements(0, 2): those by the other node remain", x.acknowledgements(0, 2), 1);
    }

    private static void replaceAtTheEnd() {
        check.part("promise 14, a fragment behind the last entry");
        LedgerStore x = Stores.withLedger(2, 1, 1, 1);
        for (int e = 0; e < 40; e++) {
            x.append(0, e);
            x.deliverAll();
            check.due("replace(0, 0)", x.replace(0, 0), 1 - e % 2);
        }
        check.due("fragmentCount(0)", x.fragmentCount(0), 41);
        check.due("firstEntry(0, 40)", x.firstEntry(0, 40), 40);
        check.due("member(0, 40, 0)", x.member(0, 40, 0), 0);
        check.due("replace(0, 0) once more", x.replace(0, 0), 1);
        check.due("fragmentCount(0)", x.fragmentCount(0), 41);
        check.due("recover(0)", x.recover(0), 39);
        check.due("state(0)", x.state(0), 2);
        check.due("read(0, 39)", x.read(0, 39), 39);
    }

    private static void recover() {
        check.part("promise 15, recover");
        LedgerStore x = Stores.withLedger(3, 3, 3, 2);
        Stores.appendMany(x, 0, 4);
        for (int i = 0; i < 3; i++) {
            x.deliver(2);
        }
        check.due("lastReadable(0)", x.lastReadable(0), -1);
        check.due("recover(0)", x.recover(0), 2);
        check.due("state(0)", x.state(0), 2);
        check.due("holders(0, 2): it was copied", x.holders(0, 2), 7);
        check.due("holders(0, 3)", x.holders(0, 3), 0);
        check.due("weight(0)", x.weight(0), 3);
        check.due("read(0, 2)", x.read(0, 2), 2);
        check.due("acknowledgements(0, 0): recovery acknowledges nothing", x.acknowledgements(0, 0), 1);
        check.badState(x, "recover(0) of a closed ledger", () -> x.recover(0));
        check.badArgument(x, "recover(1)", () -> x.recover(1));
        check.badArgument(x, "recover(-1)", () -> x.recover(-1));
        LedgerStore y = Stores.withLedger(1, 1, 1, 1);
        Stores.appendMany(y, 0, 40);
        y.deliverAll();
        check.due("recover(0) of 40 entries", y.recover(0), 39);
    }

    private static void recoverUndecided() {
        check.part("promise 15, an undecided recovery");
        LedgerStore x = Stores.withLedger(4, 4, 2, 2);
        Stores.appendMany(x, 0, 2);
        x.deliverAll();
        x.crash(0);
        x.crash(2);
        check.due("recover(0): no write set has 2 nodes down", x.recover(0), 1);
        x.undo();
        x.restart(2);
        x.crash(3);
        check.due("recover(0): the write set of entry 3 is down", x.recover(0), -2);
        check.due("state(0)", x.state(0), 1);
        check.due("lastReadable(0)", x.lastReadable(0), -1);
        check.due("isFenced(1, 0)", x.isFenced(1, 0), true);
        check.due("isFenced(0, 0)", x.isFenced(0, 0), false);
        check.badState(x, "append(0, 1)", () -> x.append(0, 1));
        check.badState(x, "replace(0, 1)", () -> x.replace(0, 1));
        check.badState(x, "repair(0)", () -> x.repair(0));
        check.badState(x, "read(0, 0)", () -> x.read(0, 0));
        check.due("underReplicated(0): nothing is readable", x.underReplicated(0), 0);
        check.due("recover(0) again", x.recover(0), -2);
        check.due("undo() of an undecided recovery", x.undo(), 3);
        check.due("state(0)", x.state(0), 1);
        x.undo();
        check.due("state(0)", x.state(0), 0);
        check.due("isFenced(1, 0)", x.isFenced(1, 0), false);
    }

    // Entries up to the greatest stored last confirmed entry are taken as they are, and not copied.
    private static void recoverFromStoredConfirmed() {
        check.part("promise 15, the stored last confirmed entry");
        LedgerStore x = Stores.withLedger(3, 3, 3, 2);
        x.append(0, 10);
        x.deliver(0);
        x.deliver(1);
        x.append(0, 11);
        x.deliver(0);
        check.due("recover(0)", x.recover(0), 1);
        check.due("holders(0, 0): not copied", x.holders(0, 0), 3);
        check.due("holders(0, 1): copied", x.holders(0, 1), 7);
        check.due("underReplicated(0)", x.underReplicated(0), 1);
        check.due("repair(0)", x.repair(0), 1);
        LedgerStore y = Stores.withLedger(3, 3, 3, 2);
        y.append(0, 10);
        y.deliver(1);
        y.deliver(2);
        y.append(0, 11);
        y.deliver(2);
        y.crash(2);
        check.due("recover(0): what a node that is down stores does not count", y.recover(0), 0);
        check.due("holders(0, 0): copied", y.holders(0, 0), 7);
        LedgerStore z = Stores.withLedger(2, 1, 1, 1);
        Stores.appendMany(z, 0, 3);
        z.deliverAll();
        z.replace(0, 0);
        z.crash(0);
        check.due("recover(0): at least the entry before the last fragment", z.recover(0), 2);
        check.due("read(0, 1): its node is down", z.read(0, 1), -1);
        check.due("lastReadable(0)", z.lastReadable(0), 2);
    }

    private static void recoverNothing() {
        check.part("promise 15, nothing to recover");
        LedgerStore x = Stores.withLedger(3, 3, 2, 1);
        check.due("recover(0) of an empty ledger", x.recover(0), -1);
        check.due("state(0)", x.state(0), 2);
        check.due("lastReadable(0)", x.lastReadable(0), -1);
        check.badState(x, "read(0, 0)", () -> x.read(0, 0));
        check.due("repair(0)", x.repair(0), 0);
        LedgerStore y = Stores.withLedger(3, 3, 1, 1);
        Stores.appendMany(y, 0, 3);
        y.deliver(1);
        y.deliver(2);
        check.due("recover(0): entry 0 is lacking", y.recover(0), -1);
        check.due("appended(0)", y.appended(0), 3);
        check.due("holders(0, 1): what lies behind stays stored", y.holders(0, 1), 2);
        LedgerStore z = Stores.withLedger(3, 3, 2, 2);
        Stores.appendMany(z, 0, 3);
        z.deliver(2);
        z.deliver(2);
        check.due("recover(0)", z.recover(0), -1);
        check.due("repair(0): entries that are not readable are not copied", z.repair(0), 0);
    }

    private static void repair() {
        check.part("promise 16, repair");
        LedgerStore x = Stores.withLedger(4, 3, 2, 2);
        check.badState(x, "repair(0) of an open ledger", () -> x.repair(0));
        check.badArgument(x, "repair(1)", () -> x.repair(1));
        check.badArgument(x, "repair(-1)", () -> x.repair(-1));
        Stores.appendMany(x, 0, 6);
        x.deliverAll();
        x.recover(0);
        check.due("repair(0) with nothing to do", x.repair(0), 0);
        x.crash(0);
        check.due("underReplicated(0)", x.underReplicated(0), 4);
        check.due("repair(0)", x.repair(0), 4);
        check.due("member(0, 0, 0)", x.member(0, 0, 0), 3);
        check.due("weight(3)", x.weight(3), 4);
        check.due("underReplicated(0)", x.underReplicated(0), 0);
        check.due("holders(0, 0): the old copy stays", x.holders(0, 0), 1 + 2 + 8);
        check.due("read(0, 5)", x.read(0, 5), 5);
        x.crash(1);
        x.crash(3);
        check.due("repair(0): no node can be chosen, nothing is copied", x.repair(0), 0);
        check.due("member(0, 0, 1)", x.member(0, 0, 1), 1);
        x.restart(0);
        check.due("repair(0): one node for two places, which has its copies", x.repair(0), 0);
        check.due("member(0, 0, 0)", x.member(0, 0, 0), 0);
        check.due("member(0, 0, 1)", x.member(0, 0, 1), 1);
        check.due("read(0, 0): only from its write set", x.read(0, 0), 0);
        check.due("undo()", x.undo(), 3);
        check.due("member(0, 0, 0)", x.member(0, 0, 0), 3);
    }

    // Nodes are chosen for every fragment before anything is copied, so the weights do not change between.
    private static void repairChooses() {
        check.part("promise 16, fragment by fragment");
        LedgerStore x = Stores.withLedger(3, 1, 1, 1);
        Stores.appendMany(x, 0, 1);
        x.deliverAll();
        check.due("replace(0, 0)", x.replace(0, 0), 1);
        check.due("recover(0)", x.recover(0), 0);
        x.crash(0);
        x.crash(1);
        check.due("addNode()", x.addNode(), 3);
        check.due("repair(0): the only copy is down", x.repair(0), 0);
        check.due("member(0, 0, 0)", x.member(0, 0, 0), 2);
        check.due("member(0, 1, 0): a fragment without entries too", x.member(0, 1, 0), 2);
        LedgerStore y = Stores.withLedger(4, 2, 2, 1);
        Stores.appendMany(y, 0, 2);
        y.deliverAll();
        y.crash(1);
        check.due("replace(0, 1)", y.replace(0, 1), 2);
        y.append(0, 9);
        y.deliverAll();
        check.due("recover(0)", y.recover(0), 2);
        y.crash(2);
        check.due("repair(0)", y.repair(0), 3);
        check.due("member(0, 0, 1)", y.member(0, 0, 1), 3);
        check.due("member(0, 1, 1)", y.member(0, 1, 1), 3);
        check.due("underReplicated(0)", y.underReplicated(0), 0);
    }

    // ---- promises 17 to 26: questions about ledgers

    private static void read() {
        check.part("promise 17, read");
        LedgerStore x = Stores.withLedger(3, 3, 2, 1);
        x.append(0, 999);
        x.append(0, 0);
        check.badState(x, "read(0, 0) before it is confirmed", () -> x.read(0, 0));
        x.deliver(1);
        check.due("read(0, 0)", x.read(0, 0), 999);
        check.badState(x, "read(0, 1)", () -> x.read(0, 1));
        check.badState(x, "read(0, MAX)", () -> x.read(0, MAX));
        check.badState(x, "read(0, 40)", () -> x.read(0, 40));
        check.badArgument(x, "read(0, -1)", () -> x.read(0, -1));
        check.badArgument(x, "read(0, MIN)", () -> x.read(0, MIN));
        check.badArgument(x, "read(1, 0)", () -> x.read(1, 0));
        check.badArgument(x, "read(-1, 0)", () -> x.read(-1, 0));
        x.crash(1);
        check.due("read(0, 0) while its holder is down", x.read(0, 0), -1);
        x.restart(1);
        check.due("read(0, 0)", x.read(0, 0), 999);
        LedgerStore y = Stores.withLedger(3, 2, 1, 1);
        y.append(0, 8);
        y.replace(0, 0);
        y.deliver(0);
        y.replace(0, 1);
        y.deliver(2);
        check.due("member(0, 0, 1)", y.member(0, 0, 1), 0);
        check.due("read(0, 0)", y.read(0, 0), 8);
        y.crash(2);
        check.due("holders(0, 0)", y.holders(0, 0), 5);
        check.due("read(0, 0): node 0 is in the ensemble, not in the write set", y.read(0, 0), -1);
        check.due("underReplicated(0)", y.underReplicated(0), 1);
    }

    private static void stateOf() {
        check.part("promise 18, state");
        LedgerStore x = Stores.withLedger(1, 1, 1, 1);
        check.due("state(0)", x.state(0), LedgerStore.OPEN);
        x.crash(0);
        x.recover(0);
        check.due("state(0)", x.state(0), LedgerStore.RECOVERING);
        x.restart(0);
        x.recover(0);
        check.due("state(0)", x.state(0), LedgerStore.CLOSED);
        check.badArgument(x, "state(1)", () -> x.state(1));
        check.badArgument(x, "state(-1)", () -> x.state(-1));
        check.badArgument(x, "state(MAX)", () -> x.state(MAX));
    }

    private static void lastReadable() {
        check.part("promise 19, lastReadable");
        LedgerStore x = Stores.withLedger(2, 2, 2, 2);
        check.due("lastReadable(0) of an empty ledger", x.lastReadable(0), -1);
        Stores.appendMany(x, 0, 3);
        x.deliver(0);
        x.deliver(0);
        x.deliver(1);
        check.due("lastReadable(0)", x.lastReadable(0), 0);
        x.deliver(1);
        check.due("lastReadable(0)", x.lastReadable(0), 1);
        LedgerStore y = Stores.withLedger(2, 2, 1, 1);
        Stores.appendMany(y, 0, 3);
        y.deliver(1);
        check.due("lastReadable(0): entry 0 is not confirmed", y.lastReadable(0), -1);
        y.deliver(0);
        check.due("lastReadable(0)", y.lastReadable(0), 1);
        y.crash(0);
        check.due("lastReadable(0): nodes that are down have acknowledged", y.lastReadable(0), 1);
        check.due("recover(0)", y.recover(0), -2);
        check.due("lastReadable(0)", y.lastReadable(0), -1);
        check.badArgument(y, "lastReadable(1)", () -> y.lastReadable(1));
        check.badArgument(y, "lastReadable(-1)", () -> y.lastReadable(-1));
    }

    private static void appended() {
        check.part("promise 20, appended");
        LedgerStore x = Stores.withLedger(1, 1, 1, 1);
        check.due("appended(0)", x.appended(0), 0);
        Stores.appendMany(x, 0, 2);
        check.due("appended(0)", x.appended(0), 2);
        x.recover(0);
        check.due("appended(0): also those that were not recovered", x.appended(0), 2);
        check.badArgument(x, "appended(1)", () -> x.appended(1));
        check.badArgument(x, "appended(-1)", () -> x.appended(-1));
    }

    private static void acknowledgements() {
        check.part("promise 21, acknowledgements");
        LedgerStore x = Stores.withLedger(3, 3, 3, 2);
        x.append(0, 1);
        check.due("acknowledgements(0, 0)", x.acknowledgements(0, 0), 0);
        x.deliver(2);
        check.due("acknowledgements(0, 0)", x.acknowledgements(0, 0), 1);
        x.deliver(1);
        x.crash(1);
        check.due("acknowledgements(0, 0)", x.acknowledgements(0, 0), 2);
        x.recover(0);
        check.due("acknowledgements(0, 0): kept", x.acknowledgements(0, 0), 2);
        check.badArgument(x, "acknowledgements(0, 1)", () -> x.acknowledgements(0, 1));
        check.badArgument(x, "acknowledgements(0, -1)", () -> x.acknowledgements(0, -1));
        check.badArgument(x, "acknowledgements(0, MAX)", () -> x.acknowledgements(0, MAX));
        check.badArgument(x, "acknowledgements(1, 0)", () -> x.acknowledgements(1, 0));
    }

    private static void holders() {
        check.part("promise 22, holders");
        LedgerStore x = Stores.withLedger(3, 2, 2, 1);
        x.append(0, 1);
        check.due("holders(0, 0)", x.holders(0, 0), 0);
        x.deliver(1);
        check.due("holders(0, 0)", x.holders(0, 0), 2);
        x.crash(1);
        check.due("holders(0, 0): down too", x.holders(0, 0), 2);
        x.append(0, 2);
        x.replace(0, 0);
        x.deliverAll();
        check.due("holders(0, 0): requests in inboxes remain", x.holders(0, 0), 3);
        check.due("holders(0, 1): also outside its write set", x.holders(0, 1), 5);
        check.badArgument(x, "holders(0, 2)", () -> x.holders(0, 2));
        check.badArgument(x, "holders(0, -1)", () -> x.holders(0, -1));
        check.badArgument(x, "holders(1, 0)", () -> x.holders(1, 0));
    }

    private static void fragments() {
        check.part("promises 23 to 25, fragments");
        LedgerStore x = Stores.withLedger(4, 2, 1, 1);
        check.due("fragmentCount(0)", x.fragmentCount(0), 1);
        check.due("firstEntry(0, 0)", x.firstEntry(0, 0), 0);
        Stores.appendMany(x, 0, 2);
        x.deliverAll();
        x.replace(0, 0);
        check.due("fragmentCount(0)", x.fragmentCount(0), 2);
        check.due("firstEntry(0, 1)", x.firstEntry(0, 1), 2);
        check.due("member(0, 0, 0)", x.member(0, 0, 0), 0);
        check.due("member(0, 1, 0)", x.member(0, 1, 0), 2);
        check.due("member(0, 1, 1)", x.member(0, 1, 1), 1);
        Stores.appendMany(x, 0, 1);
        x.deliverAll();
        x.replace(0, 1);
        check.due("firstEntry(0, 2)", x.firstEntry(0, 2), 3);
        check.due("member(0, 2, 0)", x.member(0, 2, 0), 2);
        check.due("member(0, 2, 1)", x.member(0, 2, 1), 3);
        check.badArgument(x, "fragmentCount(1)", () -> x.fragmentCount(1));
        check.badArgument(x, "fragmentCount(-1)", () -> x.fragmentCount(-1));
        check.badArgument(x, "firstEntry(0, 3)", () -> x.firstEntry(0, 3));
        check.badArgument(x, "firstEntry(0, -1)", () -> x.firstEntry(0, -1));
        check.badArgument(x, "firstEntry(1, 0)", () -> x.firstEntry(1, 0));
        check.badArgument(x, "member(0, 3, 0)", () -> x.member(0, 3, 0));
        check.badArgument(x, "member(0, -1, 0)", () -> x.member(0, -1, 0));
        check.badArgument(x, "member(0, 0, 2)", () -> x.member(0, 0, 2));
        check.badArgument(x, "member(0, 0, -1)", () -> x.member(0, 0, -1));
        check.badArgument(x, "member(0, MAX, MAX)", () -> x.member(0, MAX, MAX));
        check.badArgument(x, "member(1, 0, 0)", () -> x.member(1, 0, 0));
    }

    private static void underReplicated() {
        check.part("promise 26, underReplicated");
        LedgerStore x = Stores.withLedger(3, 3, 2, 1);
        Stores.appendMany(x, 0, 3);
        check.due("underReplicated(0): nothing is readable", x.underReplicated(0), 0);
        x.deliver(0);
        check.due("underReplicated(0)", x.underReplicated(0), 1);
        x.deliverAll();
        check.due("underReplicated(0)", x.underReplicated(0), 0);
        x.crash(1);
        check.due("underReplicated(0)", x.underReplicated(0), 2);
        x.restart(1);
        check.due("underReplicated(0)", x.underReplicated(0), 0);
        check.badArgument(x, "underReplicated(1)", () -> x.underReplicated(1));
        check.badArgument(x, "underReplicated(-1)", () -> x.underReplicated(-1));
    }

    // ---- promises 27 and 28

    private static void undo() {
        check.part("promise 27, undo");
        LedgerStore x = Stores.withNodes(3);
        check.due("undo()", x.undo(), 2);
        check.due("undo()", x.undo(), 1);
        check.due("undo()", x.undo(), 0);
        check.badState(x, "undo() of nothing", () -> x.undo());
        check.badArgument(x, "weight(0)", () -> x.weight(0));
        LedgerStore y = Stores.withNodes(6);
        for (int left = 3; left >= 0; left--) {
            check.due("undo()", y.undo(), left);
        }
        check.badState(y, "undo() of a dropped state", () -> y.undo());
        check.due("addNode(): two are left", y.addNode(), 2);
        check.due("undo()", y.undo(), 0);
        y.deliverAll();
        y.deliverAll();
        check.due("undo(): calls that change nothing are saved too", y.undo(), 1);
    }

    private static void digest() {
        check.part("promise 28, digest");
        LedgerStore x = Stores.withLedger(3, 2, 2, 1);
        x.append(0, 10);
        x.append(0, 11);
        x.deliver(0);
        x.deliver(1);
        x.replace(0, 1);
        x.crash(1);
        int half = Float.floatToIntBits(0.5f);
        check.due("digest()", x.digest(), hash(4, 0, 3,
                1, 1, 1, half, 0, 0, 1, half, 1, 1, 0, 0,
                1, 2, 2, 1, 0, 0, 2, 1, 2,
                0, 0, 1, 1, 0, 2,
                10, 2, 3, 11, 0, 0, 0, 0, 0));
        x.recover(0);
        x.deliver(0);
        check.due("digest()", x.digest(), hash(4, 1, 3,
                1, 0, 1, half, 0, 0, 1, half, 1, 1, 0, 0,
                1, 2, 2, 1, 2, 0, 2, 1, 2,
                0, 0, 1, 1, 0, 2,
                10, 2, 3, 11, 0, 0, 1, 0, 1));
    }

    private static long hash(int... values) {
        long h = 12109L;
        for (int v : values) {
            h = 31 * h + v;
        }
        return h;
    }
}
