/** The five examples at the end of the document's description. */
public final class ExamplesTest {
    private static final Check check = new Check();

    public static void main(String[] args) {
        confirmedByAckQuorum();
        recoveryFences();
        undecidedAtFirst();
        nodeIsReplaced();
        exceptions();
        check.finish("ExamplesTest");
    }

    private static LedgerStore withNodes(int nodes) {
        LedgerStore x = new LedgerStore();
        for (int n = 0; n < nodes; n++) {
            check.due("addNode()", x.addNode(), n);
        }
        return x;
    }

    private static void confirmedByAckQuorum() {
        check.part("example 1");
        LedgerStore x = withNodes(3);
        check.due("createLedger(3, 2, 2)", x.createLedger(3, 2, 2), 0);
        check.due("append(0, 10)", x.append(0, 10), 0);
        check.due("deliver(0)", x.deliver(0), 1);
        check.due("lastReadable(0)", x.lastReadable(0), -1);
        check.due("deliver(1)", x.deliver(1), 1);
        check.due("lastReadable(0)", x.lastReadable(0), 0);
        check.due("read(0, 0)", x.read(0, 0), 10);
        check.due("holders(0, 0)", x.holders(0, 0), 3);
    }

    private static void recoveryFences() {
        check.part("example 2");
        LedgerStore x = withNodes(3);
        check.due("createLedger(2, 2, 2)", x.createLedger(2, 2, 2), 0);
        check.due("append(0, 10)", x.append(0, 10), 0);
        check.due("deliver(0)", x.deliver(0), 1);
        check.due("recover(0)", x.recover(0), 0);
        check.due("lastReadable(0)", x.lastReadable(0), 0);
        check.due("read(0, 0)", x.read(0, 0), 10);
        check.due("deliver(1)", x.deliver(1), 0);
        check.due("rejections()", x.rejections(), 1);
    }

    private static void undecidedAtFirst() {
        check.part("example 3");
        LedgerStore x = withNodes(2);
        check.due("createLedger(2, 2, 1)", x.createLedger(2, 2, 1), 0);
        check.due("append(0, 10)", x.append(0, 10), 0);
        check.due("deliver(0)", x.deliver(0), 1);
        check.due("crash(1)", x.crash(1), 1);
        check.due("recover(0)", x.recover(0), -2);
        check.due("state(0)", x.state(0), 1);
        check.due("restart(1)", x.restart(1), 0);
        check.due("recover(0)", x.recover(0), 0);
        check.due("state(0)", x.state(0), 2);
    }

    private static void nodeIsReplaced() {
        check.part("example 4");
        LedgerStore x = withNodes(3);
        check.due("createLedger(2, 2, 2)", x.createLedger(2, 2, 2), 0);
        check.due("append(0, 10)", x.append(0, 10), 0);
        check.due("append(0, 11)", x.append(0, 11), 1);
        check.due("crash(1)", x.crash(1), 2);
        check.due("deliverAll()", x.deliverAll(), 2);
        check.due("lastReadable(0)", x.lastReadable(0), -1);
        check.due("replace(0, 1)", x.replace(0, 1), 2);
        check.due("fragmentCount(0)", x.fragmentCount(0), 1);
        check.due("deliverAll()", x.deliverAll(), 2);
        check.due("lastReadable(0)", x.lastReadable(0), 1);
    }

    private static void exceptions() {
        check.part("example 5");
        LedgerStore x = withNodes(1);
        check.due("createLedger(1, 1, 1)", x.createLedger(1, 1, 1), 0);
        check.badState(x, "read(0, 0)", () -> x.read(0, 0));
        check.badArgument(x, "append(0, 1000)", () -> x.append(0, 1000));
        check.due("crash(0)", x.crash(0), 0);
        check.badState(x, "crash(0)", () -> x.crash(0));
    }
}
