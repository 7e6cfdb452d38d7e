/**
 * A test for each sentence about ledgers that names a boundary: LEDGERS, WRITING, ENSEMBLE CHANGE, and the
 * promises 12 to 14 and 18 to 25.
 */
public final class LedgerBoundsTest {
    private static final int NONE = LedgerStore.NONE;
    private static final Check check = new Check();
    private static final Twins twins = new Twins(check);

    public static void main(String[] args) {
        atMostFourLedgers();
        justEnoughNodes();
        openAtFirst();
        writeSetsWrapAround();
        choosesTheLightest();
        choosesTheLowest();
        choosesNone();
        atMostFortyEntries();
        payloads();
        confirmedByExactlyA();
        confirmedFromEntryZero();
        confirmedToEntry39();
        fragmentsMeet();
        requestCarriesNone();
        requestCarriesConfirmed();
        acknowledgesWhileOpen();
        acknowledgesInItsWriteSet();
        acknowledgesOnce();
        replaceOfAnEmptyLedger();
        replaceWithNothingConfirmed();
        replaceInPlace();
        replaceOneEntryLater();
        replaceAtTheEnd();
        replaceAtEveryPosition();
        forgetsFromThere();
        remembersTheOthers();
        sendsFromFirstToLast();
        sendsInAscendingOrder();
        sendsWhatIsAcknowledged();
        sendsWhatIsStored();
        sendsTheLastConfirmed();
        lastReadableOfNone();
        appendedFromNoneToForty();
        acknowledgementsOfTheLast();
        holdersOfAllNodes();
        fragmentsUpToFortyOne();
        check.finish("LedgerBoundsTest");
    }

    // ---- LEDGERS

    private static void atMostFourLedgers() {
        check.part("there are at most 4 ledgers, numbered from 0");
        LedgerStore x = Stores.withNodes(1);
        for (int l = 0; l < 4; l++) {
            check.due("createLedger(1, 1, 1)", x.createLedger(1, 1, 1), l);
        }
        check.due("state(3)", x.state(3), LedgerStore.OPEN);
        twins.badState("a fifth ledger", LedgerBoundsTest::fourLedgers, y -> y.createLedger(1, 1, 1));
        x.recover(0);
        check.badState(x, "a fifth ledger when one is closed", () -> x.createLedger(1, 1, 1));
        x.undo();
        x.undo();
        check.due("createLedger(1, 1, 1) with 3 ledgers again", x.createLedger(1, 1, 1), 3);
    }

    private static void fourLedgers(LedgerStore x) {
        x.addNode();
        for (int l = 0; l < 4; l++) {
            x.createLedger(1, 1, 1);
        }
    }

    private static void justEnoughNodes() {
        check.part("createLedger throws if fewer than E nodes are up");
        for (int e = 1; e <= 5; e++) {
            int size = e;
            LedgerStore x = Stores.withNodes(e);
            check.due("createLedger with E nodes up", x.createLedger(e, 1, 1), 0);
            x.crash(e - 1);
            check.badState(x, "createLedger with E - 1 nodes up", () -> x.createLedger(size, 1, 1));
            twins.badState("createLedger with E - 1 nodes", y -> Stores.addNodes(y, size - 1),
                    y -> y.createLedger(size, 1, 1));
            x.addNode();
            check.due("createLedger with E nodes up, one down", x.createLedger(e, 1, 1), 1);
            check.due("the last of its ensemble", x.member(1, 0, e - 1), e);
        }
    }

    private static void openAtFirst() {
        check.part("a ledger is OPEN (0, at first)");
        for (int e = 1; e <= 5; e++) {
            LedgerStore x = Stores.withLedger(5, e, e, e);
            check.due("state(0)", x.state(0), LedgerStore.OPEN);
            check.due("appended(0)", x.appended(0), 0);
            check.due("fragmentCount(0)", x.fragmentCount(0), 1);
            check.due("firstEntry(0, 0)", x.firstEntry(0, 0), 0);
            check.due("underReplicated(0)", x.underReplicated(0), 0);
            check.due("lastReadable(0)", x.lastReadable(0), NONE);
        }
    }

    private static void writeSetsWrapAround() {
        check.part("the write set: the positions (e + i) modulo E, for i from 0 to W - 1");
        for (int e = 1; e <= 5; e++) {
            for (int w = 1; w <= e; w++) {
                LedgerStore x = Stores.withLedger(e, e, w, 1);
                Stores.appendMany(x, 0, 40);
                check.due("deliverAll()", x.deliverAll(), 40 * w);
                for (int entry = 0; entry < 40; entry++) {
                    check.due("holders(0, " + entry + ") with E " + e + " and W " + w,
                            x.holders(0, entry), writeSetMask(entry, e, w));
                }
            }
        }
    }

    // On an ensemble that consists of the nodes 0 to e - 1 in this order.
    private static int writeSetMask(int entry, int e, int w) {
        int mask = 0;
        for (int i = 0; i < w; i++) {
            mask |= 1 << (entry + i) % e;
        }
        return mask;
    }

    // Weights 2, 1, 1 and 0.
    private static LedgerStore withWeights() {
        LedgerStore x = Stores.withLedger(4, 4, 1, 1);
        Stores.appendMany(x, 0, 5);
        Stores.deliverMany(x, 0, 2);
        x.deliver(1);
        x.deliver(2);
        return x;
    }

    private static void choosesTheLightest() {
        check.part("of the nodes that are up and not in the ensemble, the one with the smallest weight");
        LedgerStore x = withWeights();
        check.due("createLedger(4, 1, 1)", x.createLedger(4, 1, 1), 1);
        int[] want = {3, 1, 2, 0};
        for (int p = 0; p < 4; p++) {
            check.due("member(1, 0, " + p + ")", x.member(1, 0, p), want[p]);
        }
        x.crash(3);
        check.due("createLedger(1, 1, 1) without the lightest", x.createLedger(1, 1, 1), 2);
        check.due("member(2, 0, 0)", x.member(2, 0, 0), 1);
        check.due("replace(2, 0): not in the ensemble", x.replace(2, 0), 2);
    }

    private static void choosesTheLowest() {
        check.part("of several the one with the lowest number is chosen");
        LedgerStore x = Stores.withLedger(8, 2, 1, 1);
        check.due("member(0, 0, 0)", x.member(0, 0, 0), 0);
        check.due("member(0, 0, 1)", x.member(0, 0, 1), 1);
        check.due("replace(0, 0)", x.replace(0, 0), 2);
        check.due("replace(0, 0): node 0 is free again", x.replace(0, 0), 0);
        x.crash(2);
        check.due("replace(0, 1)", x.replace(0, 1), 3);
    }

    private static void choosesNone() {
        check.part("there may be none: replace throws if no node can be chosen");
        twins.badState("replace(0, 0) of the only node", LedgerBoundsTest::oneNode, y -> y.replace(0, 0));
        for (int e = 1; e <= 5; e++) {
            int size = e;
            LedgerStore x = Stores.withLedger(e, e, 1, 1);
            check.badState(x, "replace in an ensemble of all nodes", () -> x.replace(0, size - 1));
            x.crash(e - 1);
            check.badState(x, "replace of a node that is down", () -> x.replace(0, size - 1));
            x.addNode();
            x.crash(e);
            check.badState(x, "replace when the only other is down", () -> x.replace(0, 0));
            x.restart(e);
            check.due("replace(0, 0) when the only other is up", x.replace(0, 0), e);
        }
    }

    private static void oneNode(LedgerStore x) {
        x.addNode();
        x.createLedger(1, 1, 1);
        Stores.appendMany(x, 0, 4);
        x.deliver(0);
    }

    private static void atMostFortyEntries() {
        check.part("its entries are numbered from 0; there are at most 40");
        LedgerStore x = Stores.withLedger(2, 2, 2, 2);
        for (int e = 0; e < 40; e++) {
            check.due("append(0, 1)", x.append(0, 1), e);
        }
        check.due("appended(0)", x.appended(0), 40);
        check.badState(x, "append of entry 40", () -> x.append(0, 1));
        twins.badState("append of entry 40", LedgerBoundsTest::fortyEntries, y -> y.append(0, 1));
        x.undo();
        check.due("append(0, 2) with 39 entries again", x.append(0, 2), 39);
        x.createLedger(1, 1, 1);
        check.due("append(1, 1): another ledger is not full", x.append(1, 1), 0);
    }

    private static void fortyEntries(LedgerStore x) {
        x.addNode();
        x.createLedger(1, 1, 1);
        Stores.appendMany(x, 0, 40);
        x.deliver(0);
    }

    private static void payloads() {
        check.part("an entry has a payload from 0 to 999");
        int[] allowed = {0, 1, 511, 512, 998, 999};
        LedgerStore x = Stores.withLedger(1, 1, 1, 1);
        for (int e = 0; e < allowed.length; e++) {
            check.due("append(0, " + allowed[e] + ")", x.append(0, allowed[e]), e);
        }
        x.deliverAll();
        for (int e = 0; e < allowed.length; e++) {
            check.due("read(0, " + e + ")", x.read(0, e), allowed[e]);
        }
        for (int payload : new int[] {-1, 1000, 1023, 1024, -1000, Stores.MIN, Stores.MAX}) {
            check.badArgument(x, "append(0, " + payload + ")", () -> x.append(0, payload));
        }
    }

    private static void confirmedByExactlyA() {
        check.part("confirmed: acknowledged by at least A nodes");
        for (int a = 1; a <= 5; a++) {
            LedgerStore x = Stores.withLedger(5, 5, 5, a);
            x.append(0, 1);
            for (int n = 0; n < 5; n++) {
                check.due("lastReadable(0) with " + n + " of " + a, x.lastReadable(0), n >= a ? 0 : NONE);
                x.deliver(n);
                check.due("acknowledgements(0, 0)", x.acknowledgements(0, 0), n + 1);
            }
            check.due("lastReadable(0) with all", x.lastReadable(0), 0);
        }
    }

    private static void confirmedFromEntryZero() {
        check.part("each of the entries 0 to e; it is NONE if entry 0 has not");
        LedgerStore x = Stores.withLedger(4, 4, 1, 1);
        Stores.appendMany(x, 0, 4);
        x.deliver(1);
        x.deliver(3);
        check.due("lastReadable(0) without entry 0", x.lastReadable(0), NONE);
        x.deliver(0);
        check.due("lastReadable(0) without entry 2", x.lastReadable(0), 1);
        x.deliver(2);
        check.due("lastReadable(0) with all", x.lastReadable(0), 3);
    }

    private static void confirmedToEntry39() {
        check.part("the last confirmed entry is the greatest, up to entry 39");
        LedgerStore x = Stores.withLedger(1, 1, 1, 1);
        Stores.appendMany(x, 0, 40);
        for (int e = 0; e < 40; e++) {
            check.due("lastReadable(0)", x.lastReadable(0), e - 1);
            x.deliver(0);
        }
        check.due("lastReadable(0)", x.lastReadable(0), 39);
        check.due("read(0, 39)", x.read(0, 39), 39);
    }

    private static void fragmentsMeet() {
        check.part("a fragment extends to the entry before the next one's first; the last one has no end");
        LedgerStore x = Stores.withLedger(2, 1, 1, 1);
        Stores.appendMany(x, 0, 2);
        x.deliverAll();
        check.due("replace(0, 0)", x.replace(0, 0), 1);
        for (int e = 2; e < 40; e++) {
            x.append(0, e);
        }
        x.deliverAll();
        check.due("holders(0, 1): the last of the first fragment", x.holders(0, 1), 1);
        check.due("holders(0, 2): the first of the last fragment", x.holders(0, 2), 2);
        check.due("holders(0, 39)", x.holders(0, 39), 2);
        x.crash(0);
        check.due("read(0, 1)", x.read(0, 1), NONE);
        check.due("read(0, 2)", x.read(0, 2), 2);
        check.due("underReplicated(0)", x.underReplicated(0), 2);
        x.restart(0);
        x.crash(1);
        check.due("read(0, 1)", x.read(0, 1), 1);
        check.due("read(0, 2)", x.read(0, 2), NONE);
        check.due("underReplicated(0)", x.underReplicated(0), 38);
    }

    // ---- WRITING

    // What a request carries is seen by recovery: it copies only what is behind the greatest of them.
    private static void requestCarriesNone() {
        check.part("the request contains the last confirmed entry at that time: NONE if there was none");
        LedgerStore x = Stores.withLedger(2, 2, 2, 1);
        Stores.appendMany(x, 0, 2);
        Stores.deliverMany(x, 0, 2);
        check.due("lastReadable(0)", x.lastReadable(0), 1);
        check.due("recover(0)", x.recover(0), 1);
        check.due("holders(0, 0): both are copied", x.holders(0, 0), 3);
        check.due("holders(0, 1)", x.holders(0, 1), 3);
    }

    private static void requestCarriesConfirmed() {
        check.part("the request contains the last confirmed entry at that time: 0 if entry 0 was confirmed");
        LedgerStore x = Stores.withLedger(2, 2, 2, 1);
        x.append(0, 5);
        x.deliver(0);
        Stores.appendMany(x, 0, 2);
        x.deliver(0);
        check.due("lastReadable(0)", x.lastReadable(0), 1);
        check.due("recover(0)", x.recover(0), 1);
        check.due("holders(0, 0): known as confirmed, not copied", x.holders(0, 0), 1);
        check.due("holders(0, 1): copied", x.holders(0, 1), 3);
        check.due("holders(0, 2)", x.holders(0, 2), 0);
    }

    // Node 0 has left the ensemble, but not the write set of entry 0; its request still waits.
    private static LedgerStore withLateRequest() {
        LedgerStore x = Stores.withLedger(3, 2, 2, 1);
        x.append(0, 5);
        x.deliver(1);
        x.replace(0, 0);
        return x;
    }

    private static void acknowledgesWhileOpen() {
        check.part("the node has acknowledged the entry if the ledger is OPEN");
        LedgerStore x = withLateRequest();
        check.due("deliver(0) while it is OPEN", x.deliver(0), 1);
        check.due("acknowledgements(0, 0)", x.acknowledgements(0, 0), 2);
        LedgerStore y = withLateRequest();
        y.crash(2);
        check.due("recover(0)", y.recover(0), LedgerStore.UNDECIDED);
        check.due("deliver(0) while it is RECOVERING", y.deliver(0), 1);
        check.due("holders(0, 0)", y.holders(0, 0), 3);
        check.due("acknowledgements(0, 0)", y.acknowledgements(0, 0), 1);
        LedgerStore z = withLateRequest();
        check.due("recover(0)", z.recover(0), 0);
        check.due("deliver(0) when it is CLOSED", z.deliver(0), 1);
        check.due("holders(0, 0)", z.holders(0, 0), 3);
        check.due("acknowledgements(0, 0)", z.acknowledgements(0, 0), 1);
    }

    private static void acknowledgesInItsWriteSet() {
        check.part("the node has acknowledged the entry if it belongs to the write set of the entry");
        LedgerStore x = Stores.withLedger(4, 3, 2, 2);
        x.append(0, 5);
        check.due("replace(0, 0)", x.replace(0, 0), 3);
        check.due("replace(0, 2)", x.replace(0, 2), 0);
        check.due("inboxLength(0)", x.inboxLength(0), 1);
        check.due("deliver(0), in the ensemble but not in the write set", x.deliver(0), 1);
        check.due("acknowledgements(0, 0)", x.acknowledgements(0, 0), 0);
        check.due("deliver(1)", x.deliver(1), 1);
        check.due("deliver(3), the new one", x.deliver(3), 1);
        check.due("acknowledgements(0, 0)", x.acknowledgements(0, 0), 2);
        check.due("holders(0, 0)", x.holders(0, 0), 1 + 2 + 8);
    }

    // Node 0 leaves and comes back, so that two requests for entry 0 wait in its inbox.
    private static void acknowledgesOnce() {
        check.part("the node has acknowledged the entry: once, also if it processes two requests for it");
        LedgerStore x = Stores.withLedger(3, 2, 2, 2);
        x.append(0, 5);
        check.due("replace(0, 0)", x.replace(0, 0), 2);
        check.due("replace(0, 0), which brings node 0 back", x.replace(0, 0), 0);
        check.due("inboxLength(0)", x.inboxLength(0), 2);
        check.due("deliver(0) of the request from before", x.deliver(0), 1);
        check.due("acknowledgements(0, 0)", x.acknowledgements(0, 0), 1);
        check.due("deliver(0) of the other request", x.deliver(0), 1);
        check.due("acknowledgements(0, 0)", x.acknowledgements(0, 0), 1);
        check.due("lastReadable(0)", x.lastReadable(0), NONE);
        check.due("replace(0, 0)", x.replace(0, 0), 2);
        check.due("replace(0, 0), which brings node 0 back", x.replace(0, 0), 0);
        check.due("acknowledgements(0, 0): forgotten, though node 0 stores it", x.acknowledgements(0, 0), 0);
        check.due("holders(0, 0)", x.holders(0, 0), 1);
        check.due("crash(0), which loses the request", x.crash(0), 1);
        check.due("restart(0)", x.restart(0), 1);
        check.due("acknowledgements(0, 0): nothing was processed", x.acknowledgements(0, 0), 0);
        x.undo();
        x.undo();
        check.due("deliver(0)", x.deliver(0), 1);
        check.due("acknowledgements(0, 0)", x.acknowledgements(0, 0), 1);
    }

    // ---- ENSEMBLE CHANGE

    private static void replaceOfAnEmptyLedger() {
        check.part("f is 0 if the last confirmed entry is NONE: a ledger without entries");
        LedgerStore x = Stores.withLedger(3, 2, 2, 2);
        check.due("replace(0, 1)", x.replace(0, 1), 2);
        check.due("fragmentCount(0)", x.fragmentCount(0), 1);
        check.due("firstEntry(0, 0)", x.firstEntry(0, 0), 0);
        check.due("member(0, 0, 1)", x.member(0, 0, 1), 2);
        check.due("inboxLength(2)", x.inboxLength(2), 0);
    }

    private static void replaceWithNothingConfirmed() {
        check.part("f is 0 if the last confirmed entry is NONE: entries that are not confirmed");
        LedgerStore x = Stores.withLedger(3, 2, 2, 2);
        Stores.appendMany(x, 0, 3);
        Stores.deliverMany(x, 0, 3);
        check.due("lastReadable(0)", x.lastReadable(0), NONE);
        check.due("replace(0, 1)", x.replace(0, 1), 2);
        check.due("fragmentCount(0)", x.fragmentCount(0), 1);
        check.due("inboxLength(2): entries 0 to 2", x.inboxLength(2), 3);
        Stores.deliverMany(x, 2, 3);
        check.due("holders(0, 0)", x.holders(0, 0), 5);
        check.due("lastReadable(0)", x.lastReadable(0), 2);
    }

    private static void replaceInPlace() {
        check.part("if the first entry of the last fragment is f, its ensemble is changed");
        LedgerStore x = Stores.withLedger(4, 2, 2, 2);
        Stores.appendMany(x, 0, 4);
        Stores.deliverMany(x, 0, 2);
        Stores.deliverMany(x, 1, 2);
        check.due("replace(0, 0)", x.replace(0, 0), 2);
        check.due("fragmentCount(0)", x.fragmentCount(0), 2);
        check.due("firstEntry(0, 1)", x.firstEntry(0, 1), 2);
        check.due("replace(0, 1), nothing confirmed in between", x.replace(0, 1), 3);
        check.due("fragmentCount(0)", x.fragmentCount(0), 2);
        check.due("firstEntry(0, 1)", x.firstEntry(0, 1), 2);
        check.due("member(0, 0, 0)", x.member(0, 0, 0), 0);
        check.due("member(0, 0, 1)", x.member(0, 0, 1), 1);
        check.due("member(0, 1, 0)", x.member(0, 1, 0), 2);
        check.due("member(0, 1, 1)", x.member(0, 1, 1), 3);
    }

    private static void replaceOneEntryLater() {
        check.part("otherwise a new fragment with the first entry f begins");
        LedgerStore x = Stores.withLedger(3, 2, 2, 2);
        Stores.appendMany(x, 0, 2);
        x.deliver(0);
        x.deliver(1);
        check.due("replace(0, 0) with entry 0 confirmed", x.replace(0, 0), 2);
        check.due("fragmentCount(0)", x.fragmentCount(0), 2);
        check.due("firstEntry(0, 1)", x.firstEntry(0, 1), 1);
        check.due("member(0, 1, 1), as in the last fragment", x.member(0, 1, 1), 1);
        x.deliver(1);
        x.deliver(2);
        check.due("replace(0, 0) with entry 1 confirmed", x.replace(0, 0), 0);
        check.due("fragmentCount(0)", x.fragmentCount(0), 3);
        check.due("firstEntry(0, 2)", x.firstEntry(0, 2), 2);
        check.due("inboxLength(0): entry 1 from before, nothing from 2 on", x.inboxLength(0), 1);
        check.due("member(0, 1, 0) stays", x.member(0, 1, 0), 2);
        check.due("member(0, 2, 0)", x.member(0, 2, 0), 0);
    }

    private static void replaceAtTheEnd() {
        check.part("f is the last confirmed entry plus 1: 40 if entry 39 is confirmed");
        LedgerStore x = Stores.withLedger(3, 1, 1, 1);
        Stores.appendMany(x, 0, 40);
        x.deliverAll();
        check.due("replace(0, 0)", x.replace(0, 0), 1);
        check.due("fragmentCount(0)", x.fragmentCount(0), 2);
        check.due("firstEntry(0, 1)", x.firstEntry(0, 1), 40);
        check.due("inboxLength(1): no entry from 40 on", x.inboxLength(1), 0);
        check.due("replace(0, 0), again at 40", x.replace(0, 0), 2);
        check.due("fragmentCount(0)", x.fragmentCount(0), 2);
        check.due("acknowledgements(0, 39)", x.acknowledgements(0, 39), 1);
        check.badState(x, "append of entry 40", () -> x.append(0, 0));
        check.due("read(0, 39), of the first fragment", x.read(0, 39), 39);
    }

    private static void replaceAtEveryPosition() {
        check.part("replace: position 0 to E - 1");
        for (int e = 1; e <= 5; e++) {
            for (int p = 0; p < e; p++) {
                LedgerStore x = Stores.withLedger(8, e, e, 1);
                check.due("replace(0, " + p + ")", x.replace(0, p), e);
                for (int q = 0; q < e; q++) {
                    check.due("member(0, 0, " + q + ")", x.member(0, 0, q), q == p ? e : q);
                }
            }
        }
    }

    private static void forgetsFromThere() {
        check.part("the acknowledgements by the replaced node for all entries from f on are forgotten");
        LedgerStore x = Stores.withLedger(3, 2, 2, 2);
        Stores.appendMany(x, 0, 4);
        Stores.deliverMany(x, 0, 4);
        Stores.deliverMany(x, 1, 2);
        check.due("lastReadable(0)", x.lastReadable(0), 1);
        x.replace(0, 0);
        check.due("acknowledgements(0, 0)", x.acknowledgements(0, 0), 2);
        check.due("acknowledgements(0, 1): f - 1", x.acknowledgements(0, 1), 2);
        check.due("acknowledgements(0, 2): f", x.acknowledgements(0, 2), 0);
        check.due("acknowledgements(0, 3): the last", x.acknowledgements(0, 3), 0);
        check.due("lastReadable(0)", x.lastReadable(0), 1);
    }

    private static void remembersTheOthers() {
        check.part("the acknowledgements by the other nodes remain, and requests that are in inboxes remain");
        LedgerStore x = Stores.withLedger(4, 3, 3, 3);
        Stores.appendMany(x, 0, 3);
        Stores.deliverMany(x, 1, 3);
        Stores.deliverMany(x, 2, 1);
        x.deliver(0);
        check.due("replace(0, 0)", x.replace(0, 0), 3);
        check.due("acknowledgements(0, 0): f - 1", x.acknowledgements(0, 0), 3);
        check.due("acknowledgements(0, 1): f", x.acknowledgements(0, 1), 1);
        check.due("acknowledgements(0, 2): the last", x.acknowledgements(0, 2), 1);
        check.due("inboxLength(0), of the replaced node", x.inboxLength(0), 2);
        check.due("inboxLength(2)", x.inboxLength(2), 2);
        check.due("inboxLength(3)", x.inboxLength(3), 2);
    }

    // Eight entries, (3, 2, 2), entry 0 alone confirmed.
    private static LedgerStore withOneConfirmed() {
        LedgerStore x = Stores.withLedger(4, 3, 2, 2);
        Stores.appendMany(x, 0, 8);
        x.deliver(0);
        x.deliver(1);
        return x;
    }

    private static void sendsFromFirstToLast() {
        check.part("for each entry from f to the last appended one whose write set contains the chosen node");
        int[][] sent = {{2, 3, 5, 6}, {1, 3, 4, 6, 7}, {1, 2, 4, 5, 7}};
        for (int p = 0; p < 3; p++) {
            LedgerStore x = withOneConfirmed();
            check.due("replace(0, " + p + ")", x.replace(0, p), 3);
            check.due("inboxLength(3)", x.inboxLength(3), sent[p].length);
            x.deliverAll();
            for (int e = 0; e < 8; e++) {
                check.due("node 3 stores entry " + e, (x.holders(0, e) & 8) != 0, contains(sent[p], e));
            }
        }
    }

    private static boolean contains(int[] row, int value) {
        for (int v : row) {
            if (v == value) {
                return true;
            }
        }
        return false;
    }

    private static void sendsInAscendingOrder() {
        check.part("in ascending order, a request is sent to the chosen node");
        LedgerStore x = withOneConfirmed();
        x.replace(0, 2);
        for (int e : new int[] {1, 2, 4, 5, 7}) {
            check.due("holders of entry " + e + " before", x.holders(0, e) & 8, 0);
            check.due("deliver(3)", x.deliver(3), 1);
            check.due("holders of entry " + e, x.holders(0, e) & 8, 8);
        }
        check.due("deliver(3)", x.deliver(3), NONE);
    }

    private static void sendsWhatIsAcknowledged() {
        check.part("for each entry from f on: also for one that A nodes have acknowledged, if it lies behind f");
        LedgerStore x = Stores.withLedger(4, 3, 3, 1);
        Stores.appendMany(x, 0, 2);
        x.crash(0);
        x.restart(0);
        x.append(0, 2);
        x.deliver(0);
        check.due("acknowledgements(0, 2)", x.acknowledgements(0, 2), 1);
        check.due("lastReadable(0)", x.lastReadable(0), NONE);
        check.due("replace(0, 1)", x.replace(0, 1), 3);
        check.due("inboxLength(3): entries 0 to 2", x.inboxLength(3), 3);
    }

    private static void sendsWhatIsStored() {
        check.part("a request is sent to the chosen node: also if it stores the entry already");
        LedgerStore x = Stores.withLedger(3, 2, 2, 2);
        Stores.appendMany(x, 0, 2);
        Stores.deliverMany(x, 0, 2);
        check.due("replace(0, 0)", x.replace(0, 0), 2);
        check.due("replace(0, 0), which brings node 0 back", x.replace(0, 0), 0);
        check.due("weight(0)", x.weight(0), 2);
        check.due("inboxLength(0)", x.inboxLength(0), 2);
    }

    // Were it any later than entry 0, recovery would begin behind entry 1 and not copy it.
    private static void sendsTheLastConfirmed() {
        check.part("a request is sent to the chosen node: it contains the last confirmed entry at that time");
        LedgerStore x = Stores.withLedger(3, 2, 2, 2);
        Stores.appendMany(x, 0, 4);
        x.deliver(0);
        x.deliver(1);
        check.due("replace(0, 0)", x.replace(0, 0), 2);
        Stores.deliverMany(x, 2, 3);
        check.due("recover(0)", x.recover(0), 3);
        for (int e = 1; e < 4; e++) {
            check.due("holders(0, " + e + "): copied to node 1", x.holders(0, e), 2 + 4);
        }
    }

    // ---- promises 19 to 25

    private static void lastReadableOfNone() {
        check.part("lastReadable: NONE if there is no readable entry");
        LedgerStore x = Stores.withLedger(1, 1, 1, 1);
        check.due("lastReadable(0), OPEN without entries", x.lastReadable(0), NONE);
        x.append(0, 1);
        check.due("lastReadable(0), OPEN with none confirmed", x.lastReadable(0), NONE);
        check.due("recover(0)", x.recover(0), NONE);
        check.due("lastReadable(0), CLOSED with none", x.lastReadable(0), NONE);
        check.due("lastReadable(0), RECOVERING",
                Stores.inState(LedgerStore.RECOVERING).lastReadable(0), NONE);
        check.due("lastReadable(0), OPEN", Stores.inState(LedgerStore.OPEN).lastReadable(0), 0);
        check.due("lastReadable(0), CLOSED", Stores.inState(LedgerStore.CLOSED).lastReadable(0), 0);
    }

    private static void appendedFromNoneToForty() {
        check.part("appended returns 0 to 40");
        LedgerStore x = Stores.withLedger(1, 1, 1, 1);
        for (int e = 0; e < 40; e++) {
            check.due("appended(0)", x.appended(0), e);
            x.append(0, e);
        }
        check.due("appended(0)", x.appended(0), 40);
        check.due("recover(0)", x.recover(0), NONE);
        check.due("appended(0) when none was recovered", x.appended(0), 40);
    }

    private static void acknowledgementsOfTheLast() {
        check.part("acknowledgements: 0 to W, kept when the ledger is not OPEN any more");
        LedgerStore x = Stores.withLedger(5, 5, 5, 3);
        Stores.appendMany(x, 0, 40);
        check.due("acknowledgements(0, 39)", x.acknowledgements(0, 39), 0);
        x.deliverAll();
        check.due("acknowledgements(0, 0)", x.acknowledgements(0, 0), 5);
        check.due("acknowledgements(0, 39)", x.acknowledgements(0, 39), 5);
        for (int n = 0; n < 3; n++) {
            x.crash(n);
        }
        check.due("recover(0)", x.recover(0), LedgerStore.UNDECIDED);
        check.due("acknowledgements(0, 39) while RECOVERING", x.acknowledgements(0, 39), 5);
        x.restart(0);
        check.due("recover(0)", x.recover(0), 39);
        check.due("acknowledgements(0, 39) when CLOSED", x.acknowledgements(0, 39), 5);
    }

    private static void holdersOfAllNodes() {
        check.part("holders: a bit mask of nodes, from none to all 8, up or down, in the write set or not");
        LedgerStore x = Stores.withLedger(8, 2, 2, 2);
        x.append(0, 1);
        check.due("holders(0, 0)", x.holders(0, 0), 0);
        int mask = 0;
        for (int n : new int[] {0, 2, 3, 4, 5, 6, 7}) {
            check.due("deliver(" + n + ")", x.deliver(n), 1);
            mask |= 1 << n;
            check.due("holders(0, 0)", x.holders(0, 0), mask);
            check.due("acknowledgements(0, 0)", x.acknowledgements(0, 0), 1);
            if (n < 7) {
                check.due("replace(0, 0)", x.replace(0, 0), n == 0 ? 2 : n + 1);
            }
        }
        x.deliver(1);
        check.due("holders(0, 0)", x.holders(0, 0), 255);
        check.due("acknowledgements(0, 0)", x.acknowledgements(0, 0), 2);
        for (int n = 0; n < 8; n++) {
            x.crash(n);
        }
        check.due("holders(0, 0) with all down", x.holders(0, 0), 255);
    }

    private static void fragmentsUpToFortyOne() {
        check.part("the first entries of the fragments increase: from 0 to 40");
        LedgerStore x = Stores.withLedger(2, 1, 1, 1);
        for (int e = 0; e < 40; e++) {
            check.due("fragmentCount(0)", x.fragmentCount(0), e + 1);
            x.append(0, e);
            x.deliver(e % 2);
            check.due("replace(0, 0)", x.replace(0, 0), 1 - e % 2);
        }
        check.due("fragmentCount(0)", x.fragmentCount(0), 41);
        for (int f = 0; f <= 40; f++) {
            check.due("firstEntry(0, " + f + ")", x.firstEntry(0, f), f);
            check.due("member(0, " + f + ", 0)", x.member(0, f, 0), f % 2);
        }
        check.due("recover(0)", x.recover(0), 39);
        check.due("read(0, 39)", x.read(0, 39), 39);
        x.crash(0);
        check.due("repair(0): the only copies are down", x.repair(0), 0);
        for (int f = 0; f <= 40; f++) {
            check.due("member(0, " + f + ", 0) after repair", x.member(0, f, 0), 1);
        }
    }
}
