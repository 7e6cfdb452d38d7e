import java.util.Arrays;

/** A simulator of a replicated log store; ../shared/DOC.md says what each call promises. */
public final class LedgerStore {
    public static final int NONE = -1;
    public static final int UNDECIDED = -2;
    public static final int OPEN = 0, RECOVERING = 1, CLOSED = 2;

    private static final int NODE_LIMIT = 8;
    private static final int LEDGER_LIMIT = 4;
    private static final int ENTRY_LIMIT = 40;
    private static final int ENSEMBLE_LIMIT = 5;
    private static final int INBOX_LIMIT = 100;
    private static final int UNDO_LIMIT = 4;
    private static final int GREATEST_PAYLOAD = 999;
    // The first entries of fragments increase, from 0 to at most ENTRY_LIMIT.
    private static final int FRAGMENT_LIMIT = ENTRY_LIMIT + 1;

    private final State now = new State();
    private final UndoStack past = new UndoStack();

    public LedgerStore() {
    }

    // ---- nodes

    public int addNode() throws IllegalStateException {
        if (now.nodeCount >= NODE_LIMIT) {
            throw new IllegalStateException("there are 8 nodes");
        }
        past.push(now);
        return now.beginNode();
    }

    public int crash(int node) throws IllegalArgumentException, IllegalStateException {
        Node found = existingNode(node);
        if (!found.up) {
            throw new IllegalStateException("the node is down already");
        }
        past.push(now);
        int lost = found.waiting;
        found.up = false;
        found.waiting = 0;
        return lost;
    }

    public int restart(int node) throws IllegalArgumentException, IllegalStateException {
        Node found = existingNode(node);
        if (found.up) {
            throw new IllegalStateException("the node is up already");
        }
        past.push(now);
        found.up = true;
        return found.storedCount;
    }

    public int deliver(int node) throws IllegalArgumentException, IllegalStateException {
        Node found = existingNode(node);
        if (!found.up) {
            throw new IllegalStateException("the node is down");
        }
        past.push(now);
        return now.processOldest(node);
    }

    public int deliverAll() {
        past.push(now);
        int storedEntries = 0;
        // Processing sends nothing, so a full inbox is empty after INBOX_LIMIT rounds.
        for (int round = 0; round < INBOX_LIMIT && now.anyRequestWaits(); round++) {
            for (int n = 0; n < now.nodeCount; n++) {
                if (now.isUp(n) && now.processOldest(n) == 1) {
                    storedEntries++;
                }
            }
        }
        return storedEntries;
    }

    public int inboxLength(int node) throws IllegalArgumentException {
        return existingNode(node).waiting;
    }

    public int weight(int node) throws IllegalArgumentException {
        return existingNode(node).storedCount;
    }

    public float share(int node) throws IllegalArgumentException {
        return shareOf(existingNode(node));
    }

    public boolean isFenced(int node, int ledger) throws IllegalArgumentException {
        Node found = existingNode(node);
        existingLedger(ledger);
        return found.isFencedFor(ledger);
    }

    public int rejections() {
        return now.rejected;
    }

    // ---- ledgers

    public int createLedger(int ensembleSize, int writeQuorum, int ackQuorum)
            throws IllegalArgumentException, IllegalStateException {
        if (ensembleSize < 1 || ensembleSize > ENSEMBLE_LIMIT) {
            throw new IllegalArgumentException("the ensemble size is out of range");
        }
        if (writeQuorum < 1 || writeQuorum > ensembleSize) {
            throw new IllegalArgumentException("the write quorum is out of range");
        }
        if (ackQuorum < 1 || ackQuorum > writeQuorum) {
            throw new IllegalArgumentException("the acknowledgement quorum is out of range");
        }
        if (now.ledgerCount >= LEDGER_LIMIT) {
            throw new IllegalStateException("there are 4 ledgers");
        }
        if (Integer.bitCount(now.upMask()) < ensembleSize) {
            throw new IllegalStateException("too few nodes are up");
        }
        past.push(now);
        return now.beginLedger(ensembleSize, writeQuorum, ackQuorum);
    }

    public int append(int ledger, int payload) throws IllegalArgumentException, IllegalStateException {
        Ledger log = existingLedger(ledger);
        if (payload < 0 || payload > GREATEST_PAYLOAD) {
            throw new IllegalArgumentException("the payload is out of range");
        }
        if (log.phase != OPEN) {
            throw new IllegalStateException("the ledger is not open");
        }
        if (log.entries >= ENTRY_LIMIT) {
            throw new IllegalStateException("the ledger has 40 entries");
        }
        past.push(now);
        return now.write(log, payload);
    }

    public int replace(int ledger, int position) throws IllegalArgumentException, IllegalStateException {
        Ledger log = existingLedger(ledger);
        if (position < 0 || position >= log.ensembleSize) {
            throw new IllegalArgumentException("there is no such position");
        }
        if (log.phase != OPEN) {
            throw new IllegalStateException("the ledger is not open");
        }
        int chosen = now.choose(log.ensembleMask(log.lastFragment()));
        if (chosen == NONE) {
            throw new IllegalStateException("no node can be chosen");
        }
        past.push(now);
        now.changeEnsemble(log, position, chosen);
        return chosen;
    }

    public int recover(int ledger) throws IllegalArgumentException, IllegalStateException {
        Ledger log = existingLedger(ledger);
        if (log.phase == CLOSED) {
            throw new IllegalStateException("the ledger is closed");
        }
        past.push(now);
        return now.recoverLedger(log);
    }

    public int repair(int ledger) throws IllegalArgumentException, IllegalStateException {
        Ledger log = existingLedger(ledger);
        if (log.phase != CLOSED) {
            throw new IllegalStateException("the ledger is not closed");
        }
        past.push(now);
        now.replaceDownNodes(log);
        return now.copyMissingEntries(log);
    }

    public int read(int ledger, int entry) throws IllegalArgumentException, IllegalStateException {
        Ledger log = existingLedger(ledger);
        if (entry < 0) {
            throw new IllegalArgumentException("the entry is negative");
        }
        if (entry > log.lastToRead()) {
            throw new IllegalStateException("the entry is not readable");
        }
        int copy = now.firstCopy(log, entry);
        return copy == NONE ? NONE : Parcel.payloadOf(copy);
    }

    public int state(int ledger) throws IllegalArgumentException {
        return existingLedger(ledger).phase;
    }

    public int lastReadable(int ledger) throws IllegalArgumentException {
        return existingLedger(ledger).lastToRead();
    }

    public int appended(int ledger) throws IllegalArgumentException {
        return existingLedger(ledger).entries;
    }

    public int acknowledgements(int ledger, int entry) throws IllegalArgumentException {
        Ledger log = existingLedger(ledger);
        requireAppended(log, entry);
        return log.countAcknowledgers(entry);
    }

    public int holders(int ledger, int entry) throws IllegalArgumentException {
        Ledger log = existingLedger(ledger);
        requireAppended(log, entry);
        return now.holderMask(log, entry);
    }

    public int fragmentCount(int ledger) throws IllegalArgumentException {
        return existingLedger(ledger).fragments;
    }

    public int firstEntry(int ledger, int fragment) throws IllegalArgumentException {
        Ledger log = existingLedger(ledger);
        requireFragment(log, fragment);
        return log.startOf(fragment);
    }

    public int member(int ledger, int fragment, int position) throws IllegalArgumentException {
        Ledger log = existingLedger(ledger);
        requireFragment(log, fragment);
        if (position < 0 || position >= log.ensembleSize) {
            throw new IllegalArgumentException("there is no such position");
        }
        return log.nodeAt(fragment, position);
    }

    public int underReplicated(int ledger) throws IllegalArgumentException {
        return now.countUnderReplicated(existingLedger(ledger));
    }

    // ---- undo and checksum

    public int undo() throws IllegalStateException {
        if (past.depth < 1) {
            throw new IllegalStateException("the undo stack is empty");
        }
        past.popInto(now);
        return past.depth;
    }

    public long digest() {
        long h = 12109L;
        h = 31 * h + past.depth;
        h = 31 * h + now.rejected;
        h = 31 * h + now.nodeCount;
        for (int n = 0; n < now.nodeCount; n++) {
            h = digestNode(h, now.node(n));
        }
        h = 31 * h + now.ledgerCount;
        for (int l = 0; l < now.ledgerCount; l++) {
            h = digestLedger(h, now.ledger(l));
        }
        return h;
    }

    private long digestNode(long start, Node node) {
        if (node == null) {
            return start;
        }
        long h = 31 * start + (node.up ? 1 : 0);
        h = 31 * h + node.waiting;
        h = 31 * h + node.storedCount;
        return 31 * h + bitsOfShare(shareOf(node));
    }

    private long digestLedger(long start, Ledger log) {
        if (log == null) {
            return start;
        }
        long h = 31 * start + log.ensembleSize;
        h = 31 * h + log.writeQuorum;
        h = 31 * h + log.ackQuorum;
        h = 31 * h + log.phase;
        h = 31 * h + log.lastToRead();
        h = 31 * h + log.entries;
        h = 31 * h + now.countUnderReplicated(log);
        h = digestFragments(31 * h + log.fragments, log);
        h = digestEntries(h, log);
        return digestFences(h, log);
    }

    private static long digestFragments(long start, Ledger log) {
        long h = start;
        for (int f = 0; f < log.fragments; f++) {
            h = 31 * h + log.startOf(f);
            for (int p = 0; p < log.ensembleSize; p++) {
                h = 31 * h + log.nodeAt(f, p);
            }
        }
        return h;
    }

    private long digestEntries(long start, Ledger log) {
        long h = start;
        for (int e = 0; e < log.entries; e++) {
            h = 31 * h + log.payloadOf(e);
            h = 31 * h + log.countAcknowledgers(e);
            h = 31 * h + now.holderMask(log, e);
        }
        return h;
    }

    private long digestFences(long start, Ledger log) {
        long h = start;
        for (int n = 0; n < now.nodeCount; n++) {
            Node node = now.node(n);
            h = 31 * h + (node != null && node.isFencedFor(log.number) ? 1 : 0);
        }
        return h;
    }

    private float shareOf(Node node) {
        int total = now.totalWeight();
        return total == 0 ? 0.0f : (float) node.storedCount / (float) total;
    }

    // Float.floatToIntBits stands outside LANGUAGE.md. A share lies in 0 to 1, and is no
    // subnormal: doubling it and taking 1 away are exact, so its bits can be told by arithmetic.
    private static int bitsOfShare(float share) {
        if (!(share > 0.0f)) {
            return 0;
        }
        float scaled = share;
        int exponent = 127;
        while (scaled < 1.0f && exponent > 1) {
            scaled = scaled * 2.0f;
            exponent--;
        }
        return (exponent << 23) + (int) ((scaled - 1.0f) * 8388608.0f);
    }

    private Node existingNode(int number) {
        Node found = now.node(number);
        if (found == null) {
            throw new IllegalArgumentException("there is no such node");
        }
        return found;
    }

    private Ledger existingLedger(int number) {
        Ledger found = now.ledger(number);
        if (found == null) {
            throw new IllegalArgumentException("there is no such ledger");
        }
        return found;
    }

    private static void requireAppended(Ledger log, int entry) {
        if (entry < 0 || entry >= log.entries) {
            throw new IllegalArgumentException("there is no such entry");
        }
    }

    private static void requireFragment(Ledger log, int fragment) {
        if (fragment < 0 || fragment >= log.fragments) {
            throw new IllegalArgumentException("there is no such fragment");
        }
    }

    private static boolean contains(int mask, int bit) {
        return bit >= 0 && (mask >> bit & 1) != 0;
    }

    private static void copyRow(int[] from, int[] to) {
        System.arraycopy(from, 0, to, 0, Math.min(from.length, to.length));
    }

    /**
     * An entry as a request brings it and as a node stores it: ledger, entry, payload and last
     * confirmed entry in one int that is never negative, so that inboxes and nodes need no objects.
     */
    private static final class Parcel {
        static int of(int ledger, int entry, int payload, int confirmed) {
            return (ledger & 3) << 22 | (entry & 63) << 16 | (confirmed + 1 & 63) << 10 | payload & 1023;
        }

        static int ledgerOf(int parcel) {
            return parcel >> 22 & 3;
        }

        static int entryOf(int parcel) {
            return parcel >> 16 & 63;
        }

        static int confirmedOf(int parcel) {
            return (parcel >> 10 & 63) - 1;
        }

        static int payloadOf(int parcel) {
            return parcel & 1023;
        }
    }

    /** A storage node: what it stores, its fences and its inbox. */
    private static final class Node {
        boolean up;
        int fences;
        int storedCount;
        int waiting;
        final int[] stored = new int[LEDGER_LIMIT * ENTRY_LIMIT];
        final int[] inbox = new int[INBOX_LIMIT];

        // The rows are used again for a node that is added after an undo.
        void begin() {
            up = true;
            fences = 0;
            storedCount = 0;
            waiting = 0;
            Arrays.fill(stored, NONE);
        }

        void copyFrom(Node other) {
            up = other.up;
            fences = other.fences;
            storedCount = other.storedCount;
            waiting = other.waiting;
            copyRow(other.stored, stored);
            copyRow(other.inbox, inbox);
        }

        boolean isFencedFor(int ledger) {
            return contains(fences, ledger);
        }

        void fenceFor(int ledger) {
            fences |= 1 << ledger;
        }

        // A request to a node that is down, or whose inbox is full, is lost.
        void receive(int parcel) {
            if (up && waiting >= 0 && waiting < inbox.length) {
                inbox[waiting] = parcel;
                waiting++;
            }
        }

        int takeOldest() {
            if (waiting < 1 || waiting > inbox.length) {
                return NONE;
            }
            int oldest = inbox[0];
            waiting--;
            System.arraycopy(inbox, 1, inbox, 0, waiting);
            return oldest;
        }

        void keep(int parcel) {
            int slot = slotOf(Parcel.ledgerOf(parcel), Parcel.entryOf(parcel));
            if (slot < 0 || slot >= stored.length) {
                return;
            }
            if (stored[slot] == NONE) {
                storedCount++;
            }
            stored[slot] = parcel;
        }

        // NONE where nothing is stored: a parcel is never negative.
        int storedParcel(int ledger, int entry) {
            int slot = slotOf(ledger, entry);
            return slot < 0 || slot >= stored.length ? NONE : stored[slot];
        }

        boolean holds(int ledger, int entry) {
            return storedParcel(ledger, entry) != NONE;
        }

        int greatestConfirmed(int ledger) {
            int greatest = NONE;
            for (int e = 0; e < ENTRY_LIMIT; e++) {
                int copy = storedParcel(ledger, e);
                if (copy != NONE) {
                    greatest = Math.max(greatest, Parcel.confirmedOf(copy));
                }
            }
            return greatest;
        }

        private static int slotOf(int ledger, int entry) {
            boolean known = ledger >= 0 && ledger < LEDGER_LIMIT && entry >= 0 && entry < ENTRY_LIMIT;
            return known ? ledger * ENTRY_LIMIT + entry : NONE;
        }
    }

    /** A ledger: its quorums, its fragments, and what its writer knows of its entries. */
    private static final class Ledger {
        final int number;
        int ensembleSize;
        int writeQuorum;
        int ackQuorum;
        int phase;
        int entries;
        int lastEntry;
        int fragments;
        final int[] payloads = new int[ENTRY_LIMIT];
        final int[] acknowledgers = new int[ENTRY_LIMIT];
        final int[] starts = new int[FRAGMENT_LIMIT];
        final int[] members = new int[FRAGMENT_LIMIT * ENSEMBLE_LIMIT];

        Ledger(int number) {
            this.number = number;
        }

        // The rows are used again for a ledger that is created after an undo.
        void begin(int size, int writes, int acks) {
            ensembleSize = size;
            writeQuorum = writes;
            ackQuorum = acks;
            phase = OPEN;
            entries = 0;
            lastEntry = NONE;
            fragments = 1;
            starts[0] = 0;
            for (int p = 0; p < size; p++) {
                setNode(0, p, NONE);
            }
        }

        void copyFrom(Ledger other) {
            ensembleSize = other.ensembleSize;
            writeQuorum = other.writeQuorum;
            ackQuorum = other.ackQuorum;
            phase = other.phase;
            entries = other.entries;
            lastEntry = other.lastEntry;
            fragments = other.fragments;
            copyRow(other.payloads, payloads);
            copyRow(other.acknowledgers, acknowledgers);
            copyRow(other.starts, starts);
            copyRow(other.members, members);
        }

        int addEntry(int payload) {
            int entry = entries;
            if (entry >= 0 && entry < payloads.length && entry < acknowledgers.length) {
                payloads[entry] = payload;
                acknowledgers[entry] = 0;
                entries++;
            }
            return entry;
        }

        int payloadOf(int entry) {
            return entry < 0 || entry >= payloads.length ? 0 : payloads[entry];
        }

        int countAcknowledgers(int entry) {
            return entry < 0 || entry >= acknowledgers.length ? 0 : Integer.bitCount(acknowledgers[entry]);
        }

        // Only an open ledger has a writer that hears of it, and only from the entry's write set.
        void acknowledge(int entry, int node) {
            if (phase != OPEN || entry < 0 || entry >= acknowledgers.length) {
                return;
            }
            if (contains(writeSetMask(fragmentOf(entry), entry), node)) {
                acknowledgers[entry] |= 1 << node;
            }
        }

        void forgetAcknowledgements(int firstForgotten, int node) {
            for (int e = Math.max(firstForgotten, 0); e < entries && e < acknowledgers.length; e++) {
                acknowledgers[e] &= ~(1 << node);
            }
        }

        int lastConfirmed() {
            int entry = 0;
            while (entry < entries && countAcknowledgers(entry) >= ackQuorum) {
                entry++;
            }
            return entry - 1;
        }

        int lastToRead() {
            return phase == OPEN ? lastConfirmed() : phase == CLOSED ? lastEntry : NONE;
        }

        int lastFragment() {
            return fragments - 1;
        }

        int startOf(int fragment) {
            return fragment < 0 || fragment >= starts.length ? 0 : starts[fragment];
        }

        int fragmentOf(int entry) {
            int found = 0;
            for (int f = 1; f < fragments; f++) {
                if (startOf(f) <= entry) {
                    found = f;
                }
            }
            return found;
        }

        int nodeAt(int fragment, int position) {
            int place = placeOf(fragment, position);
            return place < 0 || place >= members.length ? NONE : members[place];
        }

        void setNode(int fragment, int position, int node) {
            int place = placeOf(fragment, position);
            if (place >= 0 && place < members.length) {
                members[place] = node;
            }
        }

        void addFragment(int start) {
            int fragment = fragments;
            if (fragment < 1 || fragment >= starts.length) {
                return;
            }
            starts[fragment] = start;
            for (int p = 0; p < ensembleSize; p++) {
                setNode(fragment, p, nodeAt(fragment - 1, p));
            }
            fragments++;
        }

        int ensembleMask(int fragment) {
            int mask = 0;
            for (int p = 0; p < ensembleSize; p++) {
                mask |= maskOf(nodeAt(fragment, p));
            }
            return mask;
        }

        // The node that is number i of the write set which the entry has, or would have, in the fragment.
        int writeSetNode(int fragment, int entry, int i) {
            if (ensembleSize < 1 || entry < 0 || i < 0) {
                return NONE;
            }
            return nodeAt(fragment, (entry + i) % ensembleSize);
        }

        int writeSetMask(int fragment, int entry) {
            int mask = 0;
            for (int i = 0; i < writeQuorum; i++) {
                mask |= maskOf(writeSetNode(fragment, entry, i));
            }
            return mask;
        }

        private static int maskOf(int node) {
            return node < 0 ? 0 : 1 << node;
        }

        private static int placeOf(int fragment, int position) {
            boolean known = fragment >= 0 && fragment < FRAGMENT_LIMIT
                    && position >= 0 && position < ENSEMBLE_LIMIT;
            return known ? fragment * ENSEMBLE_LIMIT + position : NONE;
        }
    }

    /** All that undo restores, and the work that needs nodes and ledgers together. */
    private static final class State {
        int nodeCount;
        int ledgerCount;
        int rejected;
        final Node[] nodes = new Node[NODE_LIMIT];
        final Ledger[] ledgers = new Ledger[LEDGER_LIMIT];

        State() {
            for (int n = 0; n < nodes.length; n++) {
                nodes[n] = new Node();
            }
            for (int l = 0; l < ledgers.length; l++) {
                ledgers[l] = new Ledger(l);
            }
        }

        // What lies beyond the counts is stale and is begun anew before it is used.
        void takeOver(State other) {
            nodeCount = other.nodeCount;
            ledgerCount = other.ledgerCount;
            rejected = other.rejected;
            for (int n = 0; n < nodeCount; n++) {
                Node from = other.node(n);
                Node to = node(n);
                if (from != null && to != null) {
                    to.copyFrom(from);
                }
            }
            for (int l = 0; l < ledgerCount; l++) {
                Ledger from = other.ledger(l);
                Ledger to = ledger(l);
                if (from != null && to != null) {
                    to.copyFrom(from);
                }
            }
        }

        // Null if there is no node of this number, so that one test answers for index and reference.
        Node node(int number) {
            return number < 0 || number >= nodeCount || number >= nodes.length ? null : nodes[number];
        }

        Ledger ledger(int number) {
            return number < 0 || number >= ledgerCount || number >= ledgers.length ? null : ledgers[number];
        }

        int beginNode() {
            int number = nodeCount;
            nodeCount++;
            Node added = node(number);
            if (added != null) {
                added.begin();
            }
            return number;
        }

        int beginLedger(int size, int writes, int acks) {
            int number = ledgerCount;
            ledgerCount++;
            Ledger log = ledger(number);
            if (log != null) {
                log.begin(size, writes, acks);
                for (int p = 0; p < size; p++) {
                    log.setNode(0, p, choose(log.ensembleMask(0)));
                }
            }
            return number;
        }

        boolean isUp(int number) {
            Node node = node(number);
            return node != null && node.up;
        }

        int upMask() {
            int mask = 0;
            for (int n = 0; n < nodeCount; n++) {
                mask |= isUp(n) ? 1 << n : 0;
            }
            return mask;
        }

        int totalWeight() {
            int total = 0;
            for (int n = 0; n < nodeCount; n++) {
                Node node = node(n);
                total += node == null ? 0 : node.storedCount;
            }
            return total;
        }

        // The lightest node that is up and outside the ensemble, the lowest of several, or NONE.
        int choose(int ensemble) {
            int chosen = NONE;
            int least = 0;
            for (int n = 0; n < nodeCount; n++) {
                Node node = node(n);
                if (node == null || !node.up || contains(ensemble, n)) {
                    continue;
                }
                if (chosen == NONE || node.storedCount < least) {
                    chosen = n;
                    least = node.storedCount;
                }
            }
            return chosen;
        }

        void send(int number, int parcel) {
            Node node = node(number);
            if (node != null) {
                node.receive(parcel);
            }
        }

        // 1 if the entry was stored, 0 if it was rejected, NONE if no request waits.
        int processOldest(int number) {
            Node node = node(number);
            if (node == null) {
                return NONE;
            }
            int parcel = node.takeOldest();
            if (parcel == NONE) {
                return NONE;
            }
            int ledger = Parcel.ledgerOf(parcel);
            if (node.isFencedFor(ledger)) {
                rejected++;
                return 0;
            }
            node.keep(parcel);
            Ledger log = ledger(ledger);
            if (log != null) {
                log.acknowledge(Parcel.entryOf(parcel), number);
            }
            return 1;
        }

        boolean anyRequestWaits() {
            for (int n = 0; n < nodeCount; n++) {
                Node node = node(n);
                if (node != null && node.waiting > 0) {
                    return true;
                }
            }
            return false;
        }

        int write(Ledger log, int payload) {
            int confirmed = log.lastConfirmed();
            int entry = log.addEntry(payload);
            int parcel = Parcel.of(log.number, entry, payload, confirmed);
            int fragment = log.fragmentOf(entry);
            for (int i = 0; i < log.writeQuorum; i++) {
                send(log.writeSetNode(fragment, entry, i), parcel);
            }
            return entry;
        }

        void changeEnsemble(Ledger log, int position, int chosen) {
            int confirmed = log.lastConfirmed();
            int first = confirmed + 1;
            int replaced = log.nodeAt(log.lastFragment(), position);
            if (log.startOf(log.lastFragment()) != first) {
                log.addFragment(first);
            }
            log.setNode(log.lastFragment(), position, chosen);
            log.forgetAcknowledgements(first, replaced);
            for (int e = first; e < log.entries; e++) {
                if (contains(log.writeSetMask(log.lastFragment(), e), chosen)) {
                    send(chosen, Parcel.of(log.number, e, log.payloadOf(e), confirmed));
                }
            }
        }

        int recoverLedger(Ledger log) {
            log.phase = RECOVERING;
            fenceLastEnsemble(log);
            if (someQuorumIsDown(log)) {
                return UNDECIDED;
            }
            int entry = lastKnownConfirmed(log) + 1;
            while (entry < ENTRY_LIMIT && recoverEntry(log, entry)) {
                entry++;
            }
            log.phase = CLOSED;
            log.lastEntry = entry - 1;
            return log.lastEntry;
        }

        void fenceLastEnsemble(Ledger log) {
            for (int p = 0; p < log.ensembleSize; p++) {
                Node node = node(log.nodeAt(log.lastFragment(), p));
                if (node != null && node.up) {
                    node.fenceFor(log.number);
                }
            }
        }

        // Write sets recur after ensembleSize entries, so these stand for every entry number.
        boolean someQuorumIsDown(Ledger log) {
            int down = ~upMask();
            for (int e = 0; e < log.ensembleSize; e++) {
                int writeSet = log.writeSetMask(log.lastFragment(), e);
                if (Integer.bitCount(writeSet & down) >= log.ackQuorum) {
                    return true;
                }
            }
            return false;
        }

        int lastKnownConfirmed(Ledger log) {
            int last = log.startOf(log.lastFragment()) - 1;
            for (int p = 0; p < log.ensembleSize; p++) {
                Node node = node(log.nodeAt(log.lastFragment(), p));
                if (node != null && node.up) {
                    last = Math.max(last, node.greatestConfirmed(log.number));
                }
            }
            return last;
        }

        boolean recoverEntry(Ledger log, int entry) {
            int copy = firstCopy(log, entry);
            if (copy == NONE) {
                return false;
            }
            spread(log, entry, Parcel.of(log.number, entry, Parcel.payloadOf(copy), entry - 1));
            return true;
        }

        // What is stored at the first node of the write set that is up and stores the entry, or NONE.
        int firstCopy(Ledger log, int entry) {
            int fragment = log.fragmentOf(entry);
            for (int i = 0; i < log.writeQuorum; i++) {
                Node node = node(log.writeSetNode(fragment, entry, i));
                if (node != null && node.up && node.holds(log.number, entry)) {
                    return node.storedParcel(log.number, entry);
                }
            }
            return NONE;
        }

        // Stores the parcel on the nodes of the write set that are up and lack the entry; tells how many.
        int spread(Ledger log, int entry, int parcel) {
            int copies = 0;
            int fragment = log.fragmentOf(entry);
            for (int i = 0; i < log.writeQuorum; i++) {
                Node node = node(log.writeSetNode(fragment, entry, i));
                if (node != null && node.up && !node.holds(log.number, entry)) {
                    node.keep(parcel);
                    copies++;
                }
            }
            return copies;
        }

        void replaceDownNodes(Ledger log) {
            for (int f = 0; f < log.fragments; f++) {
                for (int p = 0; p < log.ensembleSize; p++) {
                    int chosen = isUp(log.nodeAt(f, p)) ? NONE : choose(log.ensembleMask(f));
                    if (chosen != NONE) {
                        log.setNode(f, p, chosen);
                    }
                }
            }
        }

        int copyMissingEntries(Ledger log) {
            int copies = 0;
            int last = Math.min(log.lastToRead(), ENTRY_LIMIT - 1);
            for (int e = 0; e <= last; e++) {
                int copy = firstCopy(log, e);
                if (copy != NONE) {
                    copies += spread(log, e, copy);
                }
            }
            return copies;
        }

        int holderMask(Ledger log, int entry) {
            int mask = 0;
            for (int n = 0; n < nodeCount; n++) {
                Node node = node(n);
                mask |= node != null && node.holds(log.number, entry) ? 1 << n : 0;
            }
            return mask;
        }

        int countUnderReplicated(Ledger log) {
            int count = 0;
            int up = upMask();
            int last = Math.min(log.lastToRead(), ENTRY_LIMIT - 1);
            for (int e = 0; e <= last; e++) {
                int writeSet = log.writeSetMask(log.fragmentOf(e), e);
                if (Integer.bitCount(writeSet & up & holderMask(log, e)) < log.writeQuorum) {
                    count++;
                }
            }
            return count;
        }
    }

    /** The latest saved states, in a ring whose states are made when they are first needed. */
    private static final class UndoStack {
        int depth;
        private int next;
        private final State[] ring = new State[UNDO_LIMIT];

        void push(State state) {
            if (next < 0 || next >= ring.length) {
                return;
            }
            State slot = ring[next];
            if (slot == null) {
                slot = new State();
                ring[next] = slot;
            }
            slot.takeOver(state);
            next = (next + 1) % UNDO_LIMIT;
            depth = Math.min(depth + 1, UNDO_LIMIT);
        }

        void popInto(State state) {
            int latest = (next + UNDO_LIMIT - 1) % UNDO_LIMIT;
            if (depth < 1 || latest < 0 || latest >= ring.length) {
                return;
            }
            State slot = ring[latest];
            if (slot != null) {
                state.takeOver(slot);
            }
            next = latest;
            depth--;
        }
    }
}
