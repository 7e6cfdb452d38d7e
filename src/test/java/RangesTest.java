/** Every range of an argument: each number inside is allowed, each outside throws IllegalArgumentException. */
public final class RangesTest {
    // Near the ranges' ends, at the ends of int, and where a shift or a mask would wrap to a small number.
    private static final int[] FAR = {
        Stores.MIN, Stores.MIN + 1, Stores.MIN + 40, -65536, -1000, -256, -64, -40, -32, -8, -5, -4, -3, -2, -1,
        63, 64, 65, 128, 256, 1024, 65536, 1 << 30, Stores.MAX - 1, Stores.MAX,
    };

    private static final Check check = new Check();

    /** A call with one argument that is looked at. */
    private interface Call {
        void call(LedgerStore x, int number);
    }

    /** A store on which the call is tried. */
    private interface Maker {
        LedgerStore make();
    }

    public static void main(String[] args) {
        nodes();
        ledgers();
        sizes();
        quorums();
        payloads();
        positions();
        entries();
        readEntries();
        fragments();
        check.finish("RangesTest");
    }

    // One object is asked for at most some 300 calls; what the allowed ones do is looked at elsewhere.
    private static void range(String call, int count, Maker maker, Call tried) {
        for (int number = 0; number < count; number++) {
            check.due(call + " of " + number + " throws IllegalArgumentException",
                    refuses(maker.make(), number, tried), false);
        }
        LedgerStore x = maker.make();
        for (int number : FAR) {
            outside(call, x, number, tried);
        }
        for (int number = count; number < count + 3; number++) {
            outside(call, x, number, tried);
        }
    }

    private static void outside(String call, LedgerStore x, int number, Call tried) {
        check.badArgument(x, call + " of " + number, () -> tried.call(x, number));
    }

    private static boolean refuses(LedgerStore x, int number, Call tried) {
        try {
            tried.call(x, number);
        } catch (IllegalArgumentException e) {
            return true;
        } catch (IllegalStateException e) {
            return false;
        }
        return false;
    }

    private static void nodes() {
        check.part("node: number of an existing node");
        for (int nodes = 0; nodes <= 8; nodes++) {
            int count = nodes;
            Maker maker = () -> Stores.withNodes(count);
            range("crash", count, maker, (x, n) -> x.crash(n));
            range("restart", count, maker, (x, n) -> x.restart(n));
            range("deliver", count, maker, (x, n) -> x.deliver(n));
            range("inboxLength", count, maker, (x, n) -> x.inboxLength(n));
            range("weight", count, maker, (x, n) -> x.weight(n));
            range("share", count, maker, (x, n) -> x.share(n));
            if (count > 0) {
                range("isFenced(node, 0)", count, () -> Stores.withLedger(count, 1, 1, 1), (x, n) -> x.isFenced(n, 0));
            }
        }
    }

    private static LedgerStore withLedgers(int ledgers) {
        LedgerStore x = Stores.withNodes(2);
        for (int l = 0; l < ledgers; l++) {
            x.createLedger(2, 1, 1);
            x.append(l, 1);
        }
        return x;
    }

    private static void ledgers() {
        check.part("ledger: number of an existing ledger");
        for (int ledgers = 0; ledgers <= 4; ledgers++) {
            int count = ledgers;
            Maker maker = () -> withLedgers(count);
            range("isFenced(0, ledger)", count, maker, (x, l) -> x.isFenced(0, l));
            range("append", count, maker, (x, l) -> x.append(l, 0));
            range("replace", count, maker, (x, l) -> x.replace(l, 0));
            range("recover", count, maker, (x, l) -> x.recover(l));
            range("repair", count, maker, (x, l) -> x.repair(l));
            range("read", count, maker, (x, l) -> x.read(l, 0));
            range("state", count, maker, (x, l) -> x.state(l));
            range("lastReadable", count, maker, (x, l) -> x.lastReadable(l));
            range("appended", count, maker, (x, l) -> x.appended(l));
            range("acknowledgements", count, maker, (x, l) -> x.acknowledgements(l, 0));
            range("holders", count, maker, (x, l) -> x.holders(l, 0));
            range("fragmentCount", count, maker, (x, l) -> x.fragmentCount(l));
            range("firstEntry", count, maker, (x, l) -> x.firstEntry(l, 0));
            range("member", count, maker, (x, l) -> x.member(l, 0, 0));
            range("underReplicated", count, maker, (x, l) -> x.underReplicated(l));
        }
    }

    private static void sizes() {
        check.part("ensembleSize: E, 1 to 5; writeQuorum: W, 1 to E; ackQuorum: A, 1 to W");
        for (int e = -1; e <= 7; e++) {
            for (int w = -1; w <= 7; w++) {
                for (int a = -1; a <= 7; a++) {
                    boolean allowed = e >= 1 && e <= 5 && w >= 1 && w <= e && a >= 1 && a <= w;
                    create(e, w, a, allowed);
                }
            }
        }
    }

    private static void create(int e, int w, int a, boolean allowed) {
        LedgerStore x = Stores.withNodes(8);
        String call = "createLedger(" + e + ", " + w + ", " + a + ")";
        if (allowed) {
            check.due(call, x.createLedger(e, w, a), 0);
            check.badArgument(x, "member(0, 0, E)", () -> x.member(0, 0, e));
            check.due("the last of its ensemble", x.member(0, 0, e - 1), e - 1);
            x.append(0, 0);
            check.due(call + " sends to W nodes", x.deliverAll(), w);
        } else {
            check.badArgument(x, call, () -> x.createLedger(e, w, a));
        }
    }

    private static void quorums() {
        check.part("ensembleSize, writeQuorum, ackQuorum: far outside");
        LedgerStore x = Stores.withNodes(8);
        for (int far : FAR) {
            check.badArgument(x, "createLedger(" + far + ", 1, 1)", () -> x.createLedger(far, 1, 1));
            check.badArgument(x, "createLedger(5, " + far + ", 1)", () -> x.createLedger(5, far, 1));
            check.badArgument(x, "createLedger(5, 5, " + far + ")", () -> x.createLedger(5, 5, far));
            check.badArgument(x, "createLedger with all far outside", () -> x.createLedger(far, far, far));
        }
    }

    private static void payloads() {
        check.part("payload: 0 to 999");
        int[] outside = {
            Stores.MIN, Stores.MIN + 999, -65536, -1024, -1000, -999, -2, -1, 1000, 1001, 1023, 1024, 1025, 65536,
            1 << 30, Stores.MAX - 1, Stores.MAX,
        };
        LedgerStore x = Stores.withLedger(1, 1, 1, 1);
        for (int payload : outside) {
            outside("append", x, payload, (y, p) -> y.append(0, p));
        }
        for (int from = 0; from < 1000; from += 40) {
            LedgerStore y = Stores.withLedger(1, 1, 1, 1);
            for (int e = 0; e < 40; e++) {
                check.due("append(0, " + (from + e) + ")", y.append(0, from + e), e);
            }
            y.deliverAll();
            for (int e = 0; e < 40; e++) {
                check.due("read(0, " + e + ")", y.read(0, e), from + e);
            }
        }
    }

    private static void positions() {
        check.part("position: 0 to E - 1");
        for (int size = 1; size <= 5; size++) {
            int e = size;
            range("replace(0, position)", e, () -> Stores.withLedger(8, e, 1, 1), (x, p) -> x.replace(0, p));
            range("member(0, 0, position)", e, () -> Stores.withLedger(8, e, 1, 1), (x, p) -> x.member(0, 0, p));
        }
    }

    private static LedgerStore withEntries(int entries) {
        LedgerStore x = Stores.withLedger(2, 2, 1, 1);
        Stores.appendMany(x, 0, entries);
        return x;
    }

    private static void entries() {
        check.part("entry: number of an entry that has been appended");
        for (int entries : new int[] {0, 1, 2, 39, 40}) {
            range("acknowledgements(0, entry)", entries, () -> withEntries(entries),
                    (x, e) -> x.acknowledgements(0, e));
            range("holders(0, entry)", entries, () -> withEntries(entries), (x, e) -> x.holders(0, e));
        }
    }

    // No entry of 0 or more is out of range: the ones that are not readable throw IllegalStateException.
    private static void readEntries() {
        check.part("read: entry, 0 or more");
        for (int entries : new int[] {0, 1, 39, 40}) {
            LedgerStore x = withEntries(entries);
            x.deliverAll();
            for (int entry = 0; entry < entries; entry++) {
                check.due("read(0, " + entry + ")", x.read(0, entry), entry);
            }
            for (int entry = entries; entry <= 42; entry++) {
                int beyond = entry;
                check.badState(x, "read(0, " + entry + ") of " + entries, () -> x.read(0, beyond));
            }
            for (int far : FAR) {
                if (far < 0) {
                    check.badArgument(x, "read(0, " + far + ")", () -> x.read(0, far));
                } else {
                    check.badState(x, "read(0, " + far + ")", () -> x.read(0, far));
                }
            }
        }
    }

    // An entry is confirmed before each change of the ensemble, so that each begins a fragment.
    private static LedgerStore withFragments(int fragments) {
        LedgerStore x = Stores.withLedger(3, 2, 1, 1);
        for (int f = 1; f < fragments; f++) {
            x.append(0, 0);
            x.deliverAll();
            x.replace(0, 0);
        }
        return x;
    }

    private static void fragments() {
        check.part("fragment: number of a fragment, from 0");
        for (int fragments : new int[] {1, 2, 3, 40, 41}) {
            check.due("fragmentCount(0)", withFragments(fragments).fragmentCount(0), fragments);
            range("firstEntry(0, fragment)", fragments, () -> withFragments(fragments), (x, f) -> x.firstEntry(0, f));
            range("member(0, fragment, 1)", fragments, () -> withFragments(fragments), (x, f) -> x.member(0, f, 1));
        }
    }
}
