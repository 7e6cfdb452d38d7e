/** A test for each sentence about nodes that names a boundary: NODES, and the promises 2 to 11. */
public final class NodeBoundsTest {
    private static final Check check = new Check();
    private static final Twins twins = new Twins(check);

    public static void main(String[] args) {
        atMostEightNodes();
        eightNodesThatAreDown();
        upAtFirst();
        emptyAtFirst();
        inboxTakesAHundred();
        inboxInOrder();
        inboxHasRoomAgain();
        fullInboxLosesOnlyItsOwn();
        fullInboxAtReplace();
        fullInboxOfHalfAReplace();
        lostAtANodeThatIsDown();
        crashEmptiesTheInbox();
        crashLeavesRoom();
        crashAndFence();
        crashReturns();
        restartReturns();
        deliverOfAnEmptyInbox();
        deliverOfARejectedRequest();
        deliverAllOfNothing();
        deliverAllOfFullInboxes();
        weightOfEveryEntry();
        weightOfAnEntryThatComesTwice();
        shareOfNothing();
        shareOfNoneAndAll();
        rejectionsOfNone();
        rejectionsSoFar();
        fencedForEachLedger();
        check.finish("NodeBoundsTest");
    }

    private static void atMostEightNodes() {
        check.part("there are at most 8 storage nodes, numbered from 0");
        LedgerStore x = new LedgerStore();
        for (int n = 0; n < 8; n++) {
            check.due("addNode()", x.addNode(), n);
        }
        check.due("weight(7)", x.weight(7), 0);
        twins.badState("addNode() with 8 nodes", y -> Stores.addNodes(y, 8), y -> y.addNode());
        x.undo();
        check.due("addNode() with 7 nodes again", x.addNode(), 7);
    }

    private static void eightNodesThatAreDown() {
        check.part("there are at most 8 storage nodes, those that are down too");
        LedgerStore x = Stores.withNodes(8);
        for (int n = 0; n < 8; n++) {
            x.crash(n);
        }
        check.badState(x, "addNode() with 8 nodes that are down", () -> x.addNode());
    }

    private static void upAtFirst() {
        check.part("a node is up (at first)");
        for (int n = 0; n < 8; n++) {
            int last = n;
            LedgerStore x = Stores.withNodes(n + 1);
            check.badState(x, "restart(" + n + ") of a new node", () -> x.restart(last));
            check.due("deliver(" + n + ")", x.deliver(n), LedgerStore.NONE);
            check.due("crash(" + n + ")", x.crash(n), 0);
        }
    }

    private static void emptyAtFirst() {
        check.part("addNode: up and empty, also behind nodes that store and are fenced");
        LedgerStore x = Stores.withLedger(1, 1, 1, 1);
        Stores.appendMany(x, 0, 3);
        Stores.deliverMany(x, 0, 2);
        x.recover(0);
        x.addNode();
        check.due("weight(1)", x.weight(1), 0);
        check.due("inboxLength(1)", x.inboxLength(1), 0);
        check.due("isFenced(1, 0)", x.isFenced(1, 0), false);
        check.dueFloat("share(1)", x.share(1), 0.0f);
    }

    private static void inboxTakesAHundred() {
        check.part("an inbox of at most 100 requests");
        LedgerStore x = Stores.withWaiting(99);
        check.due("inboxLength(0)", x.inboxLength(0), 99);
        check.due("append(3, 0), request 100", x.append(3, 0), 24);
        check.due("inboxLength(0)", x.inboxLength(0), 100);
        check.due("append(0, 0), request 101", x.append(0, 0), 25);
        check.due("inboxLength(0)", x.inboxLength(0), 100);
        check.due("deliverAll()", x.deliverAll(), 100);
        check.due("holders(3, 24), of request 100", x.holders(3, 24), 1);
        check.due("holders(0, 25), of request 101", x.holders(0, 25), 0);
        check.due("acknowledgements(0, 25)", x.acknowledgements(0, 25), 0);
        check.due("deliver(0)", x.deliver(0), LedgerStore.NONE);
    }

    private static void inboxInOrder() {
        check.part("an inbox, which it processes in the order in which they came, from 1 to 100");
        LedgerStore x = Stores.withWaiting(100);
        for (int i = 0; i < 100; i++) {
            check.due("holders before request " + i, x.holders(i % 4, i / 4), 0);
            check.due("deliver(0)", x.deliver(0), 1);
            check.due("holders after request " + i, x.holders(i % 4, i / 4), 1);
        }
        check.due("deliver(0) of an empty inbox", x.deliver(0), LedgerStore.NONE);
    }

    private static void inboxHasRoomAgain() {
        check.part("an inbox of at most 100 requests: one less, and there is room for one");
        LedgerStore x = Stores.withWaiting(100);
        x.deliver(0);
        x.append(0, 500);
        check.due("inboxLength(0)", x.inboxLength(0), 100);
        x.append(1, 501);
        check.due("inboxLength(0)", x.inboxLength(0), 100);
        Stores.deliverMany(x, 0, 99);
        check.due("holders(0, 25): the last in the inbox", x.holders(0, 25), 0);
        check.due("deliver(0)", x.deliver(0), 1);
        check.due("holders(0, 25)", x.holders(0, 25), 1);
        check.due("holders(1, 25): lost", x.holders(1, 25), 0);
    }

    // Ledger 0 on both nodes; node 1 is emptied by a crash while node 0 keeps its 100 requests.
    private static LedgerStore withOneFullInbox() {
        LedgerStore x = Stores.withNodes(2);
        for (int l = 0; l < 4; l++) {
            x.createLedger(2, 2, 1);
        }
        for (int i = 0; i < 100; i++) {
            x.append(i % 3, i);
        }
        x.crash(1);
        x.restart(1);
        return x;
    }

    private static void fullInboxLosesOnlyItsOwn() {
        check.part("a request whose inbox is full is lost, the requests to the other nodes are not");
        LedgerStore x = withOneFullInbox();
        check.due("append(3, 9)", x.append(3, 9), 0);
        check.due("inboxLength(0)", x.inboxLength(0), 100);
        check.due("inboxLength(1)", x.inboxLength(1), 1);
        check.due("deliverAll()", x.deliverAll(), 101);
        check.due("holders(3, 0)", x.holders(3, 0), 2);
        check.due("lastReadable(3)", x.lastReadable(3), 0);
    }

    // Ledger 0 on node 0 with 5 entries; the other ledgers are on node 1, in whose inbox so many wait.
    private static LedgerStore withCrowdedSpare(int waiting) {
        LedgerStore x = Stores.withNodes(2);
        x.createLedger(1, 1, 1);
        Stores.appendMany(x, 0, 5);
        x.crash(0);
        for (int l = 1; l < 4; l++) {
            x.createLedger(1, 1, 1);
        }
        x.restart(0);
        for (int i = 0; i < waiting; i++) {
            x.append(1 + i % 3, i);
        }
        return x;
    }

    private static void fullInboxAtReplace() {
        check.part("a request whose inbox is full is lost: all those of a replaced node");
        LedgerStore x = withCrowdedSpare(100);
        check.due("replace(0, 0)", x.replace(0, 0), 1);
        check.due("inboxLength(1)", x.inboxLength(1), 100);
        check.due("deliverAll()", x.deliverAll(), 100);
        check.due("holders(0, 0)", x.holders(0, 0), 0);
        check.due("lastReadable(0)", x.lastReadable(0), LedgerStore.NONE);
    }

    private static void fullInboxOfHalfAReplace() {
        check.part("a request whose inbox is full is lost: the later ones of a replaced node");
        LedgerStore x = withCrowdedSpare(98);
        check.due("replace(0, 0)", x.replace(0, 0), 1);
        check.due("inboxLength(1)", x.inboxLength(1), 100);
        check.due("deliverAll()", x.deliverAll(), 100);
        check.due("holders(0, 0)", x.holders(0, 0), 2);
        check.due("holders(0, 1)", x.holders(0, 1), 2);
        check.due("holders(0, 2)", x.holders(0, 2), 0);
        check.due("lastReadable(0)", x.lastReadable(0), 1);
    }

    private static void lostAtANodeThatIsDown() {
        check.part("a request that is sent to a node that is down is lost");
        LedgerStore x = Stores.withLedger(2, 2, 2, 2);
        x.crash(1);
        check.due("append(0, 5)", x.append(0, 5), 0);
        check.due("inboxLength(0)", x.inboxLength(0), 1);
        check.due("inboxLength(1)", x.inboxLength(1), 0);
        x.restart(1);
        check.due("inboxLength(1) when it is up again", x.inboxLength(1), 0);
        check.due("deliverAll()", x.deliverAll(), 1);
        check.due("holders(0, 0)", x.holders(0, 0), 1);
        check.due("acknowledgements(0, 0)", x.acknowledgements(0, 0), 1);
    }

    private static void crashEmptiesTheInbox() {
        check.part("what a node stores survives a crash; its inbox does not, also if it is full");
        LedgerStore x = Stores.withWaiting(100);
        Stores.deliverMany(x, 0, 2);
        x.append(0, 1);
        x.append(1, 1);
        check.due("crash(0) with a full inbox", x.crash(0), 100);
        check.due("inboxLength(0)", x.inboxLength(0), 0);
        check.due("weight(0)", x.weight(0), 2);
        check.due("holders(1, 0)", x.holders(1, 0), 1);
        check.due("restart(0)", x.restart(0), 2);
        check.due("inboxLength(0)", x.inboxLength(0), 0);
        check.due("deliver(0)", x.deliver(0), LedgerStore.NONE);
    }

    private static void crashLeavesRoom() {
        check.part("its inbox does not survive a crash: it takes 100 again");
        LedgerStore x = Stores.withWaiting(59);
        check.due("crash(0)", x.crash(0), 59);
        x.restart(0);
        for (int i = 0; i < 101; i++) {
            x.append((59 + i) % 4, i);
        }
        check.due("inboxLength(0)", x.inboxLength(0), 100);
        check.due("deliverAll()", x.deliverAll(), 100);
        check.due("holders(2, 14), lost in the crash", x.holders(2, 14), 0);
        check.due("holders(3, 14), sent after it", x.holders(3, 14), 1);
        check.due("holders(3, 39), request 101", x.holders(3, 39), 0);
    }

    private static void crashAndFence() {
        check.part("whether a node is fenced survives a crash");
        LedgerStore x = Stores.withNodes(2);
        x.createLedger(2, 1, 1);
        x.createLedger(2, 1, 1);
        x.recover(1);
        x.crash(0);
        check.due("isFenced(0, 1) while it is down", x.isFenced(0, 1), true);
        check.due("isFenced(0, 0) while it is down", x.isFenced(0, 0), false);
        x.restart(0);
        check.due("isFenced(0, 1)", x.isFenced(0, 1), true);
        check.due("isFenced(0, 0)", x.isFenced(0, 0), false);
    }

    private static void crashReturns() {
        check.part("crash returns the number of requests that were in its inbox, 0 to 100");
        for (int waiting : new int[] {0, 1, 99, 100, 101}) {
            LedgerStore x = Stores.withWaiting(waiting);
            check.due("crash(0) with " + waiting, x.crash(0), Math.min(waiting, 100));
            check.badState(x, "crash(0) again", () -> x.crash(0));
        }
    }

    private static void restartReturns() {
        check.part("restart returns the weight of the node, 0 if it is empty");
        LedgerStore x = Stores.withLedger(1, 1, 1, 1);
        x.append(0, 1);
        x.crash(0);
        check.due("restart(0)", x.restart(0), 0);
        x.append(0, 2);
        x.deliver(0);
        x.crash(0);
        check.due("restart(0)", x.restart(0), 1);
        check.badState(x, "restart(0) again", () -> x.restart(0));
        x.recover(0);
        x.crash(0);
        check.due("restart(0) of a fenced node", x.restart(0), 1);
    }

    private static void deliverOfAnEmptyInbox() {
        check.part("deliver: NONE if the inbox is empty");
        LedgerStore x = Stores.withLedger(2, 2, 2, 1);
        check.due("deliver(0) before anything was sent", x.deliver(0), LedgerStore.NONE);
        x.append(0, 3);
        check.due("deliver(0)", x.deliver(0), 1);
        check.due("deliver(0) of an inbox that is empty again", x.deliver(0), LedgerStore.NONE);
        check.due("inboxLength(0)", x.inboxLength(0), 0);
        check.due("inboxLength(1)", x.inboxLength(1), 1);
        check.due("weight(0)", x.weight(0), 1);
    }

    private static void deliverOfARejectedRequest() {
        check.part("deliver: 0 if the request was rejected, which removes it and stores nothing");
        LedgerStore x = Stores.withLedger(1, 1, 1, 1);
        Stores.appendMany(x, 0, 2);
        x.recover(0);
        check.due("deliver(0)", x.deliver(0), 0);
        check.due("inboxLength(0)", x.inboxLength(0), 1);
        check.due("deliver(0)", x.deliver(0), 0);
        check.due("deliver(0) of an empty inbox at a fenced node", x.deliver(0), LedgerStore.NONE);
        check.due("rejections()", x.rejections(), 2);
        check.due("weight(0)", x.weight(0), 0);
    }

    private static void deliverAllOfNothing() {
        check.part("deliverAll returns the number of entries that were stored, 0 if there are none");
        LedgerStore x = new LedgerStore();
        check.due("deliverAll() without nodes", x.deliverAll(), 0);
        x.addNode();
        check.due("deliverAll() with an empty inbox", x.deliverAll(), 0);
        x.createLedger(1, 1, 1);
        x.append(0, 1);
        x.recover(0);
        check.due("deliverAll() of a request that is rejected", x.deliverAll(), 0);
        check.due("inboxLength(0)", x.inboxLength(0), 0);
        x.crash(0);
        check.due("deliverAll() with no node up", x.deliverAll(), 0);
    }

    private static void deliverAllOfFullInboxes() {
        check.part("deliverAll: until all inboxes are empty, also from 100 and from inboxes of unlike lengths");
        LedgerStore x = withOneFullInbox();
        x.append(3, 1);
        x.addNode();
        check.due("deliverAll()", x.deliverAll(), 101);
        check.due("inboxLength(0)", x.inboxLength(0), 0);
        check.due("inboxLength(1)", x.inboxLength(1), 0);
        check.due("weight(0)", x.weight(0), 100);
        check.due("weight(1)", x.weight(1), 1);
        check.due("deliverAll() once more", x.deliverAll(), 0);
    }

    private static void weightOfEveryEntry() {
        check.part("the weight is the number of entries that it stores, of all ledgers together: 0 to 160");
        LedgerStore x = Stores.withWaiting(100);
        check.due("weight(0)", x.weight(0), 0);
        x.deliverAll();
        check.due("weight(0)", x.weight(0), 100);
        for (int i = 100; i < 160; i++) {
            x.append(i % 4, i);
        }
        check.due("deliverAll()", x.deliverAll(), 60);
        check.due("weight(0)", x.weight(0), 160);
        check.dueFloat("share(0)", x.share(0), 1.0f);
        check.due("holders(3, 39)", x.holders(3, 39), 1);
        check.due("lastReadable(3)", x.lastReadable(3), 39);
    }

    private static void weightOfAnEntryThatComesTwice() {
        check.part("if it stores this entry already, the new values replace the old ones");
        LedgerStore x = Stores.withLedger(2, 1, 1, 1);
        x.append(0, 5);
        x.replace(0, 0);
        check.due("deliver(0), which left the write set", x.deliver(0), 1);
        check.due("acknowledgements(0, 0)", x.acknowledgements(0, 0), 0);
        check.due("crash(1), which loses the request", x.crash(1), 1);
        check.due("replace(0, 0)", x.replace(0, 0), 0);
        check.due("deliver(0) of the same entry", x.deliver(0), 1);
        check.due("weight(0)", x.weight(0), 1);
        check.due("acknowledgements(0, 0)", x.acknowledgements(0, 0), 1);
        check.due("read(0, 0)", x.read(0, 0), 5);
    }

    private static void shareOfNothing() {
        check.part("share: 0.0f if no node stores an entry");
        for (int nodes = 1; nodes <= 8; nodes++) {
            LedgerStore x = Stores.withNodes(nodes);
            check.dueFloat("share(0) of " + nodes, x.share(0), 0.0f);
            check.dueFloat("share of the last of " + nodes, x.share(nodes - 1), 0.0f);
        }
        LedgerStore y = Stores.withWaiting(1);
        check.dueFloat("share(0) while the request waits", y.share(0), 0.0f);
        y.deliver(0);
        check.dueFloat("share(0)", y.share(0), 1.0f);
        y.undo();
        check.dueFloat("share(0) after undo()", y.share(0), 0.0f);
    }

    private static void shareOfNoneAndAll() {
        check.part("share: weight as a float divided by the sum as a float, from 0 to 1");
        LedgerStore x = Stores.withLedger(3, 3, 3, 1);
        Stores.appendMany(x, 0, 40);
        x.deliver(2);
        check.dueFloat("share(2) of all", x.share(2), 1.0f);
        check.dueFloat("share(0) of none", x.share(0), 0.0f);
        Stores.deliverMany(x, 1, 40);
        check.dueFloat("share(2)", x.share(2), 1.0f / 41.0f);
        check.dueFloat("share(1)", x.share(1), 40.0f / 41.0f);
        x.crash(1);
        check.dueFloat("share(2): a node that is down counts in the sum", x.share(2), 1.0f / 41.0f);
        check.dueFloat("share(1) of a node that is down", x.share(1), 40.0f / 41.0f);
    }

    private static void rejectionsOfNone() {
        check.part("rejections: so far, 0 at first");
        LedgerStore x = new LedgerStore();
        check.due("rejections()", x.rejections(), 0);
        LedgerStore y = Stores.withWaiting(100);
        for (int l = 0; l < 4; l++) {
            y.recover(l);
        }
        check.due("rejections()", y.rejections(), 0);
        y.deliverAll();
        check.due("rejections() of a full inbox", y.rejections(), 100);
    }

    private static void rejectionsSoFar() {
        check.part("rejections: that have been rejected so far, of all nodes and ledgers; no call takes one back");
        LedgerStore x = Stores.withLedger(3, 2, 2, 1);
        x.createLedger(2, 2, 1);
        x.append(0, 1);
        x.append(1, 2);
        x.recover(0);
        check.due("deliverAll()", x.deliverAll(), 2);
        check.due("rejections()", x.rejections(), 2);
        x.append(1, 3);
        x.replace(1, 0);
        x.recover(1);
        x.repair(0);
        x.crash(2);
        x.restart(2);
        x.addNode();
        x.createLedger(1, 1, 1);
        check.due("rejections() after other calls", x.rejections(), 2);
        x.deliverAll();
        check.due("rejections() of the other ledger too", x.rejections(), 3);
    }

    private static void fencedForEachLedger() {
        check.part("for each ledger it may be fenced: ledgers 0 to 3, nodes 0 to 7");
        for (int fenced = 0; fenced < 4; fenced++) {
            LedgerStore x = Stores.withNodes(8);
            for (int l = 0; l < 4; l++) {
                x.createLedger(5, 1, 1);
            }
            x.crash(0);
            x.replace(fenced, 0);
            x.recover(fenced);
            for (int n = 0; n < 8; n++) {
                for (int l = 0; l < 4; l++) {
                    check.due("isFenced(" + n + ", " + l + ")", x.isFenced(n, l), l == fenced && n >= 1 && n <= 5);
                }
            }
        }
    }
}
