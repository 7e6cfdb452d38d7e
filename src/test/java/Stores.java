/** Stores in the states that many tests begin with. */
final class Stores {
    static final int MIN = Integer.MIN_VALUE;
    static final int MAX = Integer.MAX_VALUE;

    private Stores() {
    }

    static LedgerStore withNodes(int nodes) {
        LedgerStore x = new LedgerStore();
        addNodes(x, nodes);
        return x;
    }

    // Ledger 0, on the nodes 0 to e - 1.
    static LedgerStore withLedger(int nodes, int e, int w, int a) {
        LedgerStore x = withNodes(nodes);
        if (x.createLedger(e, w, a) != 0) {
            throw new IllegalStateException("the first ledger has not the number 0");
        }
        return x;
    }

    static void addNodes(LedgerStore x, int nodes) {
        for (int n = 0; n < nodes; n++) {
            x.addNode();
        }
    }

    static void appendMany(LedgerStore x, int ledger, int count) {
        for (int i = 0; i < count; i++) {
            x.append(ledger, i);
        }
    }

    static void deliverMany(LedgerStore x, int node, int count) {
        for (int i = 0; i < count; i++) {
            x.deliver(node);
        }
    }

    // Requests of all ledgers in turn, each of which sends one to the only node: at most 160.
    static LedgerStore withWaiting(int requests) {
        LedgerStore x = withNodes(1);
        for (int l = 0; l < 4; l++) {
            x.createLedger(1, 1, 1);
        }
        for (int i = 0; i < requests; i++) {
            x.append(i % 4, i);
        }
        return x;
    }

    // A ledger of the number 0 that is open, recovering or closed, on one node.
    static LedgerStore inState(int state) {
        LedgerStore x = withLedger(1, 1, 1, 1);
        x.append(0, 7);
        x.deliver(0);
        if (state == LedgerStore.RECOVERING) {
            x.crash(0);
        }
        if (state != LedgerStore.OPEN) {
            x.recover(0);
        }
        return x;
    }

    /**
     * Five nodes, of which node 1 is down, requests that wait at the nodes 0 and 2, a full undo stack,
     * and three ledgers: 0 is open (3, 2, 2) with 6 entries of which 0 to 2 are confirmed, 1 is closed
     * with one entry, 2 is recovering.
     */
    static void busy(LedgerStore x) {
        addNodes(x, 5);
        x.createLedger(3, 2, 2);
        x.createLedger(2, 2, 1);
        x.createLedger(2, 2, 1);
        appendMany(x, 0, 3);
        x.append(1, 7);
        x.append(2, 8);
        x.deliverAll();
        x.recover(1);
        x.crash(1);
        x.recover(2);
        appendMany(x, 0, 3);
        x.deliver(0);
    }
}
