import java.math.BigInteger;
import java.util.Arrays;

/** A test for each sentence about undo, the digest and the calls of an object that names a boundary. */
public final class UndoBoundsTest {
    private static final int NONE = LedgerStore.NONE;
    private static final Check check = new Check();
    private static final Twins twins = new Twins(check);

    public static void main(String[] args) {
        emptyAtFirst();
        keepsTheLatestFour();
        dropsOlderOnes();
        growsAgain();
        returnsWhatIsLeft();
        savesEachUndoableCall();
        savesWhatChangesNothing();
        savesOneStateForDeliverAll();
        savesTheStateBefore();
        restoresEverything();
        numbersAreGivenAgain();
        newNodesAreEmptyAgain();
        newLedgersAreEmptyAgain();
        asksWithoutSaving();
        refusesWithoutSaving();
        digestOfANewObject();
        digestCountsTheStack();
        digestOfEachValue();
        digestOfNone();
        digestOfNegativeValues();
        digestWraps();
        digestOfShares();
        digestOfASmallShare();
        answersCall512();
        undoesAtCall512();
        check.finish("UndoBoundsTest");
    }

    // ---- promise 27

    private static void emptyAtFirst() {
        check.part("a store without nodes and ledgers, with an empty undo stack");
        LedgerStore x = new LedgerStore();
        check.badState(x, "undo() of a new object", () -> x.undo());
        check.due("addNode()", x.addNode(), 0);
        check.due("undo()", x.undo(), 0);
        check.badState(x, "undo() again", () -> x.undo());
        check.badArgument(x, "weight(0): the node is gone", () -> x.weight(0));
    }

    private static void keepsTheLatestFour() {
        check.part("the stack keeps the latest 4 saved states");
        LedgerStore x = Stores.withNodes(4);
        for (int left = 3; left >= 0; left--) {
            check.due("undo()", x.undo(), left);
        }
        check.badArgument(x, "weight(0): no node is left", () -> x.weight(0));
        check.badState(x, "undo() of an empty stack", () -> x.undo());
    }

    private static void dropsOlderOnes() {
        check.part("and drops older ones");
        for (int calls = 5; calls <= 8; calls++) {
            LedgerStore x = Stores.withNodes(calls);
            for (int left = 3; left >= 0; left--) {
                check.due("undo() after " + calls, x.undo(), left);
            }
            check.badState(x, "undo() of a dropped state", () -> x.undo());
            check.due("weight of the last that stays", x.weight(calls - 5), 0);
            int gone = calls - 4;
            check.badArgument(x, "weight of the first that is gone", () -> x.weight(gone));
        }
    }

    private static void growsAgain() {
        check.part("the latest 4 saved states, also when some were restored in between");
        for (int back = 1; back <= 4; back++) {
            LedgerStore x = Stores.withNodes(6);
            for (int i = 0; i < back; i++) {
                x.undo();
            }
            for (int i = 0; i < 2; i++) {
                check.due("addNode()", x.addNode(), 6 - back + i);
            }
            int depth = Math.min(4, 6 - back);
            for (int left = depth - 1; left >= 0; left--) {
                check.due("undo()", x.undo(), left);
            }
            check.badState(x, "undo() of an empty stack", () -> x.undo());
            check.due("addNode()", x.addNode(), 8 - back - depth);
        }
    }

    private static void returnsWhatIsLeft() {
        check.part("undo returns the number of states that are left on the stack, 3 to 0");
        for (int calls = 1; calls <= 6; calls++) {
            LedgerStore x = new LedgerStore();
            for (int i = 0; i < calls; i++) {
                x.deliverAll();
            }
            check.due("undo() after " + calls, x.undo(), Math.min(calls, 4) - 1);
        }
    }

    private static void savesEachUndoableCall() {
        check.part("every method that is marked undoable saves the whole state when it ends normally");
        gives("addNode()", x -> x.addNode());
        gives("crash(0)", x -> x.crash(0));
        gives("restart(1)", x -> x.restart(1));
        gives("deliver(0)", x -> x.deliver(0));
        gives("deliverAll()", x -> x.deliverAll());
        gives("createLedger(4, 2, 1)", x -> x.createLedger(4, 2, 1));
        gives("append(0, 999)", x -> x.append(0, 999));
        gives("replace(0, 1), a new fragment", x -> x.replace(0, 1));
        gives("recover(0)", x -> x.recover(0));
        gives("recover(2), undecided", x -> x.recover(2));
        gives("repair(1)", x -> x.repair(1));
    }

    private static void gives(String call, Twins.Scene undoable) {
        twins.undoGivesBack(call, Stores::busy, undoable);
    }

    private static void savesWhatChangesNothing() {
        check.part("also if it changes nothing");
        LedgerStore x = new LedgerStore();
        x.deliverAll();
        check.due("undo() of deliverAll() without nodes", x.undo(), 0);
        LedgerStore y = Stores.withNodes(1);
        check.due("deliver(0) of an empty inbox", y.deliver(0), NONE);
        check.due("undo() of it", y.undo(), 1);
        LedgerStore z = Twins.after(Stores::busy);
        z.undo();
        z.undo();
        check.due("recover(2), undecided as before", z.recover(2), LedgerStore.UNDECIDED);
        check.due("undo() of it", z.undo(), 2);
        check.due("undo() of the call before", z.undo(), 1);
        LedgerStore w = Stores.inState(LedgerStore.CLOSED);
        w.undo();
        check.due("state(0)", w.state(0), LedgerStore.OPEN);
        w.recover(0);
        check.due("repair(0) of nothing", w.repair(0), 0);
        check.due("undo() of it", w.undo(), 3);
        check.due("state(0)", w.state(0), LedgerStore.CLOSED);
        check.due("undo() of recover(0)", w.undo(), 2);
        check.due("state(0)", w.state(0), LedgerStore.OPEN);
    }

    private static void savesOneStateForDeliverAll() {
        check.part("deliverAll: one saved state, also for 100 requests");
        LedgerStore x = Stores.withWaiting(100);
        x.deliverAll();
        check.due("undo()", x.undo(), 3);
        check.due("inboxLength(0)", x.inboxLength(0), 100);
        check.due("weight(0)", x.weight(0), 0);
        check.due("undo() of the last append", x.undo(), 2);
        check.due("inboxLength(0)", x.inboxLength(0), 99);
    }

    private static void savesTheStateBefore() {
        check.part("the saved state is the one from before the call");
        LedgerStore x = Stores.withLedger(1, 1, 1, 1);
        for (int e = 0; e < 5; e++) {
            x.append(0, e);
        }
        for (int e = 5; e > 1; e--) {
            check.due("appended(0)", x.appended(0), e);
            check.due("inboxLength(0)", x.inboxLength(0), e);
            x.undo();
        }
        check.due("appended(0)", x.appended(0), 1);
        check.due("append(0, 9)", x.append(0, 9), 1);
    }

    private static void restoresEverything() {
        check.part("restores the saved state: inboxes, fences, rejections, acknowledgements, fragments");
        LedgerStore x = Stores.withLedger(3, 2, 2, 1);
        Stores.appendMany(x, 0, 2);
        x.deliver(0);
        x.replace(0, 0);
        x.recover(0);
        x.deliver(1);
        check.due("rejections()", x.rejections(), 1);
        x.undo();
        check.due("rejections()", x.rejections(), 0);
        check.due("inboxLength(1)", x.inboxLength(1), 2);
        check.due("isFenced(1, 0)", x.isFenced(1, 0), true);
        x.undo();
        check.due("isFenced(1, 0)", x.isFenced(1, 0), false);
        check.due("state(0)", x.state(0), LedgerStore.OPEN);
        check.due("fragmentCount(0)", x.fragmentCount(0), 2);
        x.undo();
        check.due("fragmentCount(0)", x.fragmentCount(0), 1);
        check.due("member(0, 0, 0)", x.member(0, 0, 0), 0);
        check.due("inboxLength(2)", x.inboxLength(2), 0);
        check.due("acknowledgements(0, 0)", x.acknowledgements(0, 0), 1);
        x.undo();
        check.due("acknowledgements(0, 0)", x.acknowledgements(0, 0), 0);
        check.due("holders(0, 0)", x.holders(0, 0), 0);
        check.due("inboxLength(0)", x.inboxLength(0), 2);
        check.badState(x, "undo() of an empty stack", () -> x.undo());
        check.due("deliverAll()", x.deliverAll(), 4);
    }

    private static void numbersAreGivenAgain() {
        check.part("restores the saved state: the same numbers are given again");
        LedgerStore x = Stores.withNodes(8);
        for (int l = 0; l < 4; l++) {
            check.due("createLedger(5, 5, 5)", x.createLedger(5, 5, 5), l);
        }
        for (int l = 3; l >= 0; l--) {
            check.due("undo()", x.undo(), l);
            int gone = l;
            check.badArgument(x, "state of the ledger that is gone", () -> x.state(gone));
        }
        for (int l = 0; l < 4; l++) {
            check.due("createLedger(1, 1, 1)", x.createLedger(1, 1, 1), l);
            int again = l;
            check.badArgument(x, "member(l, 0, 1) of the new ledger", () -> x.member(again, 0, 1));
        }
    }

    private static void newNodesAreEmptyAgain() {
        check.part("restores the saved state: nothing of a node that is gone clings to the next one");
        LedgerStore x = Stores.withLedger(1, 1, 1, 1);
        x.addNode();
        x.replace(0, 0);
        x.append(0, 3);
        x.recover(0);
        undoAll(x);
        check.due("addNode()", x.addNode(), 1);
        check.due("isFenced(1, 0)", x.isFenced(1, 0), false);
        check.due("inboxLength(1)", x.inboxLength(1), 0);
        check.due("deliver(1)", x.deliver(1), NONE);
        x.undo();
        x.replace(0, 0);
        x.append(0, 4);
        x.deliver(1);
        check.due("weight(1)", x.weight(1), 1);
        undoAll(x);
        check.due("addNode()", x.addNode(), 1);
        check.due("weight(1)", x.weight(1), 0);
        x.crash(1);
        x.undo();
        x.undo();
        check.due("addNode()", x.addNode(), 1);
        check.due("crash(1): it is up", x.crash(1), 0);
    }

    private static void newLedgersAreEmptyAgain() {
        check.part("restores the saved state: nothing of a ledger that is gone clings to the next one");
        LedgerStore x = Stores.withLedger(1, 1, 1, 1);
        x.append(0, 3);
        x.deliver(0);
        x.recover(0);
        undoAll(x);
        check.due("createLedger(1, 1, 1)", x.createLedger(1, 1, 1), 0);
        check.due("state(0)", x.state(0), LedgerStore.OPEN);
        check.due("appended(0)", x.appended(0), 0);
        check.due("lastReadable(0)", x.lastReadable(0), NONE);
        check.due("isFenced(0, 0)", x.isFenced(0, 0), false);
        check.due("append(0, 5)", x.append(0, 5), 0);
        check.due("acknowledgements(0, 0)", x.acknowledgements(0, 0), 0);
        check.due("holders(0, 0)", x.holders(0, 0), 0);
        check.due("lastReadable(0)", x.lastReadable(0), NONE);
        LedgerStore y = Stores.withNodes(3);
        y.createLedger(1, 1, 1);
        y.append(0, 1);
        y.deliver(0);
        y.replace(0, 0);
        check.due("fragmentCount(0)", y.fragmentCount(0), 2);
        undoAll(y);
        check.due("createLedger(2, 2, 2)", y.createLedger(2, 2, 2), 0);
        check.due("fragmentCount(0)", y.fragmentCount(0), 1);
        check.due("member(0, 0, 0)", y.member(0, 0, 0), 0);
        check.due("member(0, 0, 1)", y.member(0, 0, 1), 1);
    }

    private static void undoAll(LedgerStore x) {
        for (int left = 3; left >= 0; left--) {
            check.due("undo()", x.undo(), left);
        }
    }

    private static void asksWithoutSaving() {
        check.part("a method that is not marked undoable saves nothing, undo() neither");
        LedgerStore x = Stores.inState(LedgerStore.OPEN);
        x.deliver(0);
        check.due("undo()", x.undo(), 3);
        x.inboxLength(0);
        x.weight(0);
        x.share(0);
        x.isFenced(0, 0);
        x.rejections();
        x.read(0, 0);
        x.state(0);
        x.lastReadable(0);
        x.appended(0);
        x.acknowledgements(0, 0);
        x.holders(0, 0);
        x.fragmentCount(0);
        x.firstEntry(0, 0);
        x.member(0, 0, 0);
        x.underReplicated(0);
        x.digest();
        for (int left = 2; left >= 0; left--) {
            check.due("undo()", x.undo(), left);
        }
        check.badState(x, "undo() of an empty stack", () -> x.undo());
    }

    private static void refusesWithoutSaving() {
        check.part("saves when it ends normally: a call that throws saves nothing");
        LedgerStore x = Stores.inState(LedgerStore.OPEN);
        x.undo();
        x.undo();
        check.badState(x, "restart(0)", () -> x.restart(0));
        check.badArgument(x, "crash(1)", () -> x.crash(1));
        check.badArgument(x, "deliver(1)", () -> x.deliver(1));
        check.badArgument(x, "createLedger(0, 0, 0)", () -> x.createLedger(0, 0, 0));
        check.badState(x, "createLedger(2, 1, 1)", () -> x.createLedger(2, 1, 1));
        check.badArgument(x, "append(0, 1000)", () -> x.append(0, 1000));
        check.badState(x, "replace(0, 0)", () -> x.replace(0, 0));
        check.badArgument(x, "recover(1)", () -> x.recover(1));
        check.badState(x, "repair(0)", () -> x.repair(0));
        check.due("undo()", x.undo(), 1);
        check.due("undo()", x.undo(), 0);
        check.badState(x, "undo() of an empty stack", () -> x.undo());
    }

    // ---- promise 28

    // In numbers without an end, of which the 64 lowest bits are taken only at the end.
    private static BigInteger unbounded(long... values) {
        BigInteger h = BigInteger.valueOf(12109);
        for (long v : values) {
            h = h.multiply(BigInteger.valueOf(31)).add(BigInteger.valueOf(v));
        }
        return h;
    }

    private static long hash(long... values) {
        return unbounded(values).longValue();
    }

    private static void digestOfANewObject() {
        check.part("digest: it starts with h = 12109");
        check.due("digest()", new LedgerStore().digest(), 12109L * 31 * 31 * 31 * 31);
        check.due("digest()", new LedgerStore().digest(), hash(0, 0, 0, 0));
    }

    private static void digestCountsTheStack() {
        check.part("digest: the number of states on the undo stack, 0 to 4");
        LedgerStore x = new LedgerStore();
        for (int calls = 1; calls <= 6; calls++) {
            x.deliverAll();
            check.due("digest()", x.digest(), hash(Math.min(calls, 4), 0, 0, 0));
        }
        for (int left = 3; left >= 0; left--) {
            x.undo();
            check.due("digest()", x.digest(), hash(left, 0, 0, 0));
        }
    }

    private static void digestOfEachValue() {
        check.part("digest: each of the following values, in this order");
        LedgerStore x = Stores.withLedger(4, 3, 2, 1);
        x.createLedger(1, 1, 1);
        x.append(0, 100);
        x.append(0, 200);
        x.append(1, 300);
        x.deliver(1);
        x.crash(2);
        x.replace(0, 2);
        x.recover(1);
        Stores.deliverMany(x, 0, 2);
        long half = Float.floatToIntBits(0.5f);
        check.due("digest()", x.digest(), hash(4, 1, 4,
                1, 0, 1, half, 1, 1, 1, half, 0, 0, 0, 0, 1, 1, 0, 0,
                2,
                3, 2, 1, 0, 0, 2, 0, 2, 0, 0, 1, 2, 1, 0, 1, 3, 100, 2, 3, 200, 0, 0, 0, 0, 0, 0,
                1, 1, 1, 2, NONE, 1, 0, 1, 0, 0, 300, 0, 0, 1, 0, 0, 0));
    }

    private static void digestOfNone() {
        check.part("digest: of nodes without ledgers");
        LedgerStore x = Stores.withNodes(2);
        check.due("digest()", x.digest(), hash(2, 0, 2, 1, 0, 0, 0, 1, 0, 0, 0, 0));
        x.crash(1);
        check.due("digest()", x.digest(), hash(3, 0, 2, 1, 0, 0, 0, 0, 0, 0, 0, 0));
    }

    private static void digestOfNegativeValues() {
        check.part("digest: lastReadable() that is NONE");
        LedgerStore x = Stores.withLedger(1, 1, 1, 1);
        check.due("digest()", x.digest(), hash(2, 0, 1, 1, 0, 0, 0, 1, 1, 1, 1, 0, NONE, 0, 0, 1, 0, 0, 0));
        x.recover(0);
        check.due("digest()", x.digest(), hash(3, 0, 1, 1, 0, 0, 0, 1, 1, 1, 1, 2, NONE, 0, 0, 1, 0, 0, 1));
        x.undo();
        x.crash(0);
        x.recover(0);
        check.due("digest()", x.digest(), hash(4, 0, 1, 0, 0, 0, 0, 1, 1, 1, 1, 1, NONE, 0, 0, 1, 0, 0, 0));
    }

    private static void digestWraps() {
        check.part("digest: long arithmetic, overflow wraps");
        LedgerStore x = new LedgerStore();
        boolean wrapped = false;
        boolean negative = false;
        for (int nodes = 1; nodes <= 8; nodes++) {
            x.addNode();
            long[] values = new long[4 + 4 * nodes];
            values[0] = Math.min(nodes, 4);
            values[2] = nodes;
            for (int n = 0; n < nodes; n++) {
                values[3 + 4 * n] = 1;
            }
            check.due("digest() of " + nodes + " nodes", x.digest(), hash(values));
            wrapped |= unbounded(values).bitLength() > 63;
            negative |= x.digest() < 0;
        }
        check.due("a hash went beyond 63 bits", wrapped, true);
        check.due("a hash wrapped to a negative number", negative, true);
    }

    private static void digestOfShares() {
        check.part("digest: Float.floatToIntBits of share(), from 0 to 1");
        for (int first = 0; first <= 40; first++) {
            for (int second = 0; second <= 40; second++) {
                LedgerStore x = Stores.withLedger(2, 2, 2, 2);
                Stores.appendMany(x, 0, 40);
                Stores.deliverMany(x, 0, first);
                Stores.deliverMany(x, 1, second);
                check.due("digest() with weights " + first + " and " + second, x.digest(), hashOfTwo(first, second));
            }
        }
    }

    private static long hashOfTwo(int first, int second) {
        long[] values = new long[160];
        int k = put(values, 0, 4, 0, 2);
        k = put(values, k, 1, 40 - first, first, bits(first, first + second));
        k = put(values, k, 1, 40 - second, second, bits(second, first + second));
        k = put(values, k, 1, 2, 2, 2, 0, Math.min(first, second) - 1, 40, 0, 1, 0, 0, 1);
        for (int e = 0; e < 40; e++) {
            int holders = (e < first ? 1 : 0) + (e < second ? 2 : 0);
            k = put(values, k, e, Integer.bitCount(holders), holders);
        }
        return hash(Arrays.copyOf(values, put(values, k, 0, 0)));
    }

    private static int bits(int weight, int sum) {
        return Float.floatToIntBits(sum == 0 ? 0.0f : (float) weight / (float) sum);
    }

    private static int put(long[] values, int at, int... more) {
        for (int i = 0; i < more.length; i++) {
            values[at + i] = more[i];
        }
        return at + more.length;
    }

    // Four nodes store all 160 entries, node 4 stores one: a small share, and long rows of values.
    private static void digestOfASmallShare() {
        check.part("digest: a store that is full, Float.floatToIntBits of a small share()");
        LedgerStore x = Stores.withNodes(5);
        for (int l = 0; l < 4; l++) {
            x.createLedger(5, 5, 1);
        }
        for (int e = 0; e < 160; e++) {
            x.append(e / 40, 999 - e);
            if (e == 0) {
                x.deliver(4);
                x.crash(4);
            }
            if (e % 80 == 79) {
                x.deliverAll();
            }
        }
        check.dueFloat("share(4)", x.share(4), 1.0f / 641.0f);
        long[] values = new long[1000];
        int k = put(values, 0, 4, 0, 5);
        for (int n = 0; n < 5; n++) {
            k = n < 4 ? put(values, k, 1, 0, 160, bits(160, 641)) : put(values, k, 0, 0, 1, bits(1, 641));
        }
        k = put(values, k, 4);
        for (int l = 0; l < 4; l++) {
            k = put(values, k, 5, 5, 1, 0, 39, 40, 40, 1, 0, 0, 1, 2, 3, 4);
            for (int e = 0; e < 40; e++) {
                boolean everywhere = l == 0 && e == 0;
                k = put(values, k, 999 - 40 * l - e, everywhere ? 5 : 4, everywhere ? 31 : 15);
            }
            k = put(values, k, 0, 0, 0, 0, 0);
        }
        check.due("digest()", x.digest(), hash(Arrays.copyOf(values, k)));
    }

    // ---- at most 512 calls

    private static void answersCall512() {
        check.part("an object is used for at most 512 calls: all of them are answered, the last one too");
        LedgerStore x = new LedgerStore();
        check.due("addNode()", x.addNode(), 0);
        check.due("createLedger(1, 1, 1)", x.createLedger(1, 1, 1), 0);
        for (int round = 0; round < 101; round++) {
            check.due("append in round " + round, x.append(0, round), 0);
            check.due("deliver in round " + round, x.deliver(0), 1);
            check.due("read in round " + round, x.read(0, 0), round);
            check.due("undo in round " + round, x.undo(), 3);
            check.due("undo in round " + round, x.undo(), 2);
        }
        check.due("call 508, append(0, 8)", x.append(0, 8), 0);
        check.due("call 509, deliver(0)", x.deliver(0), 1);
        check.due("call 510, append(0, 9)", x.append(0, 9), 1);
        check.due("call 511, crash(0)", x.crash(0), 1);
        check.due("call 512, digest()", x.digest(), hash(4, 0, 1, 0, 0, 1, bits(1, 1),
                1, 1, 1, 1, 0, 0, 2, 1, 1, 0, 0, 8, 1, 1, 9, 0, 0, 0));
    }

    private static void undoesAtCall512() {
        check.part("an object is used for at most 512 calls: each may be undoable, the last one may be undo()");
        LedgerStore x = Stores.withLedger(1, 1, 1, 1);
        x.append(0, 1);
        x.deliver(0);
        int call = 4;
        while (call < 505) {
            check.due("crash(0)", x.crash(0), 0);
            check.due("restart(0)", x.restart(0), 1);
            check.due("deliver(0)", x.deliver(0), NONE);
            call += 3;
        }
        check.due("calls so far", call, 505);
        check.due("call 506, deliverAll()", x.deliverAll(), 0);
        check.due("call 507, addNode()", x.addNode(), 1);
        for (int left = 3; left >= 1; left--) {
            check.due("undo()", x.undo(), left);
        }
        check.due("call 511, weight(0)", x.weight(0), 1);
        check.due("call 512, undo()", x.undo(), 0);
    }
}
