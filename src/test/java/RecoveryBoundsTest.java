/**
 * A test for each sentence about recovery, reading and repair that names a boundary: RECOVERY, READING AND
 * REPAIR, and the promises 15 to 17 and 26.
 */
public final class RecoveryBoundsTest {
    private static final int NONE = LedgerStore.NONE;
    private static final int UNDECIDED = LedgerStore.UNDECIDED;
    private static final Check check = new Check();
    private static final Twins twins = new Twins(check);

    public static void main(String[] args) {
        recoversUnlessClosed();
        fencesThoseThatAreUp();
        fencesForGood();
        undecidedByExactlyA();
        undecidedByEveryWriteSet();
        undecidedAcrossTheEnd();
        undecidedInTheLastFragment();
        undecidedByAnyEntryNumber();
        undecidedDoesNoMore();
        startsAtNone();
        startsAtTheLastFragment();
        startsAtTheGreatest();
        startsAtTheGreatestOfOneNode();
        startsAtItsOwnLedger();
        recoversFortyEntries();
        recoversFewerThanForty();
        recoversToAGap();
        recoversWithoutAcknowledgements();
        recoversNothing();
        copiesToThoseThatLackIt();
        readsToTheLastConfirmed();
        readsToTheLastEntry();
        readsNothingWhileRecovering();
        readsNone();
        readsInTheWriteSet();
        fewerThanW();
        underReplicatedFromNoneToForty();
        underReplicatedOnlyReadable();
        repairsOnlyClosed();
        repairsNothing();
        repairsEmptyLedger();
        repairsWithNoNode();
        repairsWithOneNode();
        repairsWithTheLightest();
        repairsWhatCanBeRead();
        repairsBehindALostEntry();
        repairsToTheLastEntry();
        repairsEveryFragment();
        repairsFortyEntries();
        check.finish("RecoveryBoundsTest");
    }

    // ---- RECOVERY

    private static void recoversUnlessClosed() {
        check.part("a new writer recovers a ledger that is OPEN or RECOVERING; it throws if it is CLOSED");
        LedgerStore x = Stores.inState(LedgerStore.OPEN);
        check.due("recover(0), OPEN", x.recover(0), 0);
        LedgerStore y = Stores.inState(LedgerStore.RECOVERING);
        check.due("recover(0), RECOVERING", y.recover(0), UNDECIDED);
        y.restart(0);
        check.due("recover(0), RECOVERING with its node up", y.recover(0), 0);
        check.badState(y, "recover(0), CLOSED", () -> y.recover(0));
        twins.badState("recover(1), CLOSED", Stores::busy, z -> z.recover(1));
    }

    private static void fencesThoseThatAreUp() {
        check.part("all nodes of the ensemble of the last fragment that are up become fenced for the ledger");
        LedgerStore x = Stores.withLedger(5, 3, 2, 2);
        x.append(0, 1);
        x.deliverAll();
        check.due("replace(0, 0), in a second fragment", x.replace(0, 0), 3);
        x.crash(2);
        check.due("recover(0)", x.recover(0), 0);
        boolean[] fenced = {false, true, false, true, false};
        for (int n = 0; n < 5; n++) {
            check.due("isFenced(" + n + ", 0)", x.isFenced(n, 0), fenced[n]);
        }
        x.restart(2);
        check.due("isFenced(2, 0): it was down", x.isFenced(2, 0), false);
    }

    private static void fencesForGood() {
        check.part("become fenced: a node stays fenced when it is down at the next recovery");
        LedgerStore x = Stores.withLedger(2, 2, 2, 1);
        x.crash(1);
        check.due("recover(0)", x.recover(0), UNDECIDED);
        x.crash(0);
        check.due("recover(0) again", x.recover(0), UNDECIDED);
        check.due("isFenced(0, 0)", x.isFenced(0, 0), true);
        x.restart(0);
        x.restart(1);
        check.due("recover(0) with both up", x.recover(0), NONE);
        check.due("isFenced(0, 0)", x.isFenced(0, 0), true);
        check.due("isFenced(1, 0)", x.isFenced(1, 0), true);
    }

    private static void undecidedByExactlyA() {
        check.part("at least A nodes of the write set are down: A are, A - 1 are not enough");
        for (int a = 1; a <= 5; a++) {
            for (int down = 0; down <= 5; down++) {
                LedgerStore x = Stores.withLedger(5, 5, 5, a);
                for (int n = 0; n < down; n++) {
                    x.crash(n);
                }
                int want = down >= a ? UNDECIDED : NONE;
                check.due("recover(0) with " + down + " down and A " + a, x.recover(0), want);
                check.due("state(0)", x.state(0), down >= a ? LedgerStore.RECOVERING : LedgerStore.CLOSED);
            }
        }
    }

    private static void undecidedByEveryWriteSet() {
        check.part("for some entry number e, at least A nodes of the write set that e would have are down");
        for (int e = 1; e <= 5; e++) {
            for (int w = 1; w <= e; w++) {
                for (int a = 1; a <= w; a++) {
                    for (int down = 0; down < 1 << e; down++) {
                        undecided(e, w, a, down);
                    }
                }
            }
        }
    }

    private static void undecided(int e, int w, int a, int down) {
        LedgerStore x = Stores.withLedger(e, e, w, a);
        for (int n = 0; n < e; n++) {
            if ((down >> n & 1) != 0) {
                x.crash(n);
            }
        }
        boolean some = false;
        for (int entry = 0; entry < 40; entry++) {
            int count = 0;
            for (int i = 0; i < w; i++) {
                count += down >> (entry + i) % e & 1;
            }
            some |= count >= a;
        }
        check.due("recover(0) of (" + e + ", " + w + ", " + a + ") with the nodes " + down + " down",
                x.recover(0), some ? UNDECIDED : NONE);
    }

    private static void undecidedAcrossTheEnd() {
        check.part("the write set that e would have: across the end of the ensemble, for an e not appended");
        LedgerStore x = Stores.withLedger(4, 4, 2, 2);
        x.append(0, 1);
        x.deliverAll();
        x.crash(3);
        x.crash(0);
        check.due("recover(0): positions 3 and 0 are down", x.recover(0), UNDECIDED);
        LedgerStore y = Stores.withLedger(4, 4, 2, 2);
        y.append(0, 1);
        y.deliverAll();
        y.crash(1);
        y.crash(3);
        check.due("recover(0): positions 1 and 3 are down", y.recover(0), 0);
    }

    // Entry 0 lies on node 0, the last fragment on node 1 alone.
    private static LedgerStore withTwoFragments() {
        LedgerStore x = Stores.withLedger(2, 1, 1, 1);
        x.append(0, 1);
        x.deliverAll();
        x.replace(0, 0);
        return x;
    }

    private static void undecidedInTheLastFragment() {
        check.part("the write set that e would have in the last fragment, not in the one to which it belongs");
        LedgerStore x = withTwoFragments();
        x.crash(0);
        check.due("recover(0) with a node of the first fragment down", x.recover(0), 0);
        LedgerStore y = withTwoFragments();
        y.crash(1);
        check.due("recover(0) with the node of the last fragment down", y.recover(0), UNDECIDED);
    }

    // Position 0 of the last fragment holds node 2, position 1 node 1; each would have every second entry.
    private static void undecidedByAnyEntryNumber() {
        check.part("for some entry number e: also if the last fragment has few entries left for it, or none");
        for (int confirmed = 37; confirmed <= 40; confirmed++) {
            for (int node = 1; node <= 2; node++) {
                LedgerStore x = Stores.withLedger(3, 2, 1, 1);
                Stores.appendMany(x, 0, confirmed);
                x.deliverAll();
                check.due("replace(0, 0)", x.replace(0, 0), 2);
                check.due("firstEntry(0, 1)", x.firstEntry(0, 1), confirmed);
                x.crash(node);
                check.due("recover(0) with node " + node + " down", x.recover(0), UNDECIDED);
                x.restart(node);
                check.due("recover(0) with all up", x.recover(0), confirmed - 1);
            }
        }
    }

    private static void undecidedDoesNoMore() {
        check.part("the recovery stops undecided: RECOVERING and fenced, nothing stored, no last entry");
        LedgerStore x = Stores.withLedger(3, 3, 3, 2);
        Stores.appendMany(x, 0, 2);
        Stores.deliverMany(x, 0, 2);
        x.crash(1);
        x.crash(2);
        check.due("recover(0)", x.recover(0), UNDECIDED);
        check.due("state(0)", x.state(0), LedgerStore.RECOVERING);
        check.due("isFenced(0, 0)", x.isFenced(0, 0), true);
        check.due("isFenced(1, 0)", x.isFenced(1, 0), false);
        check.due("lastReadable(0)", x.lastReadable(0), NONE);
        x.restart(1);
        check.due("holders(0, 0)", x.holders(0, 0), 1);
        check.due("recover(0) again", x.recover(0), 1);
        check.due("isFenced(1, 0)", x.isFenced(1, 0), true);
        check.due("holders(0, 0): copied to node 1", x.holders(0, 0), 3);
        check.due("state(0)", x.state(0), LedgerStore.CLOSED);
    }

    private static void startsAtNone() {
        check.part("the greatest last confirmed entry that is stored, or NONE if there is none");
        LedgerStore x = Stores.withLedger(2, 2, 2, 2);
        x.append(0, 1);
        check.due("recover(0) with nothing stored", x.recover(0), NONE);
        LedgerStore y = Stores.withLedger(2, 2, 2, 2);
        y.append(0, 1);
        y.deliver(1);
        check.due("recover(0) with NONE stored", y.recover(0), 0);
        check.due("holders(0, 0): entry 0 is recovered", y.holders(0, 0), 3);
    }

    private static void startsAtTheLastFragment() {
        check.part("but at least (first entry of the last fragment) - 1");
        for (int confirmed = 0; confirmed <= 40; confirmed++) {
            LedgerStore x = Stores.withLedger(2, 1, 1, 1);
            Stores.appendMany(x, 0, confirmed);
            x.deliverAll();
            x.replace(0, 0);
            check.due("recover(0) with an empty last fragment", x.recover(0), confirmed - 1);
            check.due("lastReadable(0)", x.lastReadable(0), confirmed - 1);
            check.due("weight(1): nothing is recovered", x.weight(1), 0);
        }
    }

    // Node 2 stores entry 1, which was sent when entry 0 was confirmed; node 1 stores entry 0 alone.
    private static LedgerStore withUnlikeNodes() {
        LedgerStore x = Stores.withLedger(3, 3, 3, 2);
        x.append(0, 10);
        x.deliver(1);
        x.deliver(2);
        x.append(0, 11);
        x.deliver(2);
        return x;
    }

    private static void startsAtTheGreatest() {
        check.part("the greatest that is stored on a node of the ensemble that is up");
        LedgerStore x = withUnlikeNodes();
        check.due("recover(0) with node 2 up", x.recover(0), 1);
        check.due("holders(0, 0): known as confirmed, not copied", x.holders(0, 0), 2 + 4);
        check.due("holders(0, 1): copied", x.holders(0, 1), 7);
        LedgerStore y = withUnlikeNodes();
        y.crash(2);
        check.due("recover(0) with node 2 down", y.recover(0), 0);
        check.due("holders(0, 0): copied", y.holders(0, 0), 7);
        check.due("holders(0, 1)", y.holders(0, 1), 4);
    }

    private static void startsAtTheGreatestOfOneNode() {
        check.part("the greatest that is stored with an entry: of several entries of one node, NONE to 38");
        for (int last = 0; last < 40; last++) {
            LedgerStore x = Stores.withLedger(2, 2, 2, 1);
            for (int e = 0; e <= last; e++) {
                x.append(0, e);
                x.deliver(0);
            }
            check.due("recover(0)", x.recover(0), last);
            for (int e = 0; e < last; e++) {
                check.due("holders(0, " + e + "): known as confirmed, not copied", x.holders(0, e), 1);
            }
            check.due("holders(0, " + last + "): copied", x.holders(0, last), 3);
        }
    }

    private static void startsAtItsOwnLedger() {
        check.part("stored with an entry of this ledger");
        LedgerStore x = Stores.withLedger(2, 2, 2, 2);
        x.createLedger(2, 2, 1);
        x.append(0, 1);
        x.deliver(0);
        for (int e = 0; e < 3; e++) {
            x.append(1, e);
            x.deliver(0);
        }
        check.due("lastReadable(1)", x.lastReadable(1), 2);
        check.due("recover(0)", x.recover(0), 0);
        check.due("holders(0, 0)", x.holders(0, 0), 3);
    }

    private static void recoversFortyEntries() {
        check.part("step (3) is repeated if e is below 40; if e is 40, the last entry is e - 1");
        LedgerStore x = Stores.withLedger(2, 2, 2, 2);
        Stores.appendMany(x, 0, 40);
        Stores.deliverMany(x, 1, 40);
        check.due("lastReadable(0)", x.lastReadable(0), NONE);
        check.due("recover(0)", x.recover(0), 39);
        check.due("state(0)", x.state(0), LedgerStore.CLOSED);
        check.due("lastReadable(0)", x.lastReadable(0), 39);
        check.due("weight(0)", x.weight(0), 40);
        check.due("holders(0, 39)", x.holders(0, 39), 3);
        check.due("read(0, 39)", x.read(0, 39), 39);
        check.due("underReplicated(0)", x.underReplicated(0), 0);
    }

    private static void recoversFewerThanForty() {
        check.part("otherwise the ledger is CLOSED, and its last entry is e - 1");
        for (int stored : new int[] {1, 2, 38, 39}) {
            LedgerStore x = Stores.withLedger(2, 2, 2, 2);
            Stores.appendMany(x, 0, 40);
            Stores.deliverMany(x, 0, stored);
            check.due("recover(0) with " + stored + " stored", x.recover(0), stored - 1);
            check.due("lastReadable(0)", x.lastReadable(0), stored - 1);
            check.due("weight(1)", x.weight(1), stored);
            check.due("appended(0)", x.appended(0), 40);
        }
    }

    private static void recoversToAGap() {
        check.part("if a node of the write set of e that is up stores the entry e; otherwise it ends");
        LedgerStore x = Stores.withLedger(4, 4, 1, 1);
        Stores.appendMany(x, 0, 4);
        x.deliver(0);
        x.deliver(1);
        x.deliver(3);
        check.due("recover(0) without entry 2", x.recover(0), 1);
        check.due("lastReadable(0)", x.lastReadable(0), 1);
        check.due("holders(0, 3): it stays stored", x.holders(0, 3), 8);
    }

    // Node 0 stores entry 0, left and came back: its acknowledgement is forgotten, its copy is not.
    private static void recoversWithoutAcknowledgements() {
        check.part("if a node of the write set stores the entry, it is recovered: acknowledged or not");
        LedgerStore x = Stores.withLedger(3, 2, 2, 2);
        x.append(0, 6);
        x.deliver(0);
        check.due("replace(0, 0)", x.replace(0, 0), 2);
        check.due("replace(0, 0)", x.replace(0, 0), 0);
        check.due("acknowledgements(0, 0)", x.acknowledgements(0, 0), 0);
        check.due("recover(0)", x.recover(0), 0);
        check.due("holders(0, 0)", x.holders(0, 0), 3);
        check.due("acknowledgements(0, 0): recovery adds none", x.acknowledgements(0, 0), 0);
    }

    private static void recoversNothing() {
        check.part("its last entry is e - 1 (NONE if e is 0)");
        for (int e = 1; e <= 5; e++) {
            LedgerStore x = Stores.withLedger(5, e, e, 1);
            check.due("recover(0) without entries", x.recover(0), NONE);
            check.due("state(0)", x.state(0), LedgerStore.CLOSED);
            check.due("lastReadable(0)", x.lastReadable(0), NONE);
        }
        LedgerStore y = Stores.withLedger(2, 2, 2, 2);
        y.append(0, 1);
        y.deliver(1);
        y.crash(1);
        check.due("recover(0) with entry 0 on a node that is down", y.recover(0), NONE);
        check.due("state(0)", y.state(0), LedgerStore.CLOSED);
        check.badState(y, "read(0, 0)", () -> y.read(0, 0));
    }

    private static void copiesToThoseThatLackIt() {
        check.part("every node of the write set that is up and does not store it stores it");
        LedgerStore x = Stores.withLedger(5, 4, 3, 2);
        Stores.appendMany(x, 0, 1);
        x.deliver(1);
        x.crash(0);
        check.due("recover(0)", x.recover(0), 0);
        check.due("holders(0, 0): node 0 is down, node 3 outside the write set", x.holders(0, 0), 2 + 4);
        check.due("weight(0)", x.weight(0), 0);
        check.due("weight(1)", x.weight(1), 1);
        check.due("weight(2)", x.weight(2), 1);
        check.due("inboxLength(2): its request remains", x.inboxLength(2), 1);
        check.due("rejections()", x.rejections(), 0);
        check.due("deliver(2)", x.deliver(2), 0);
        check.due("rejections()", x.rejections(), 1);
    }

    // ---- READING

    private static void readsToTheLastConfirmed() {
        check.part("the readable entries are 0 to its last confirmed entry, if it is OPEN");
        LedgerStore x = Stores.withLedger(1, 1, 1, 1);
        check.badState(x, "read(0, 0) without entries", () -> x.read(0, 0));
        for (int e = 0; e < 40; e++) {
            int next = e;
            x.append(0, e);
            check.badState(x, "read of an entry that is not confirmed", () -> x.read(0, next));
            x.deliver(0);
            check.due("read(0, " + e + ")", x.read(0, e), e);
        }
        check.due("read(0, 0)", x.read(0, 0), 0);
        check.badState(x, "read(0, 40)", () -> x.read(0, 40));
        check.badState(x, "read(0, MAX)", () -> x.read(0, Stores.MAX));
        check.badArgument(x, "read(0, -1)", () -> x.read(0, -1));
    }

    private static void readsToTheLastEntry() {
        check.part("the readable entries are 0 to its last entry, if it is CLOSED");
        LedgerStore x = Stores.withLedger(2, 2, 2, 2);
        Stores.appendMany(x, 0, 3);
        Stores.deliverMany(x, 0, 2);
        check.badState(x, "read(0, 0), stored but not confirmed", () -> x.read(0, 0));
        check.due("recover(0)", x.recover(0), 1);
        check.due("read(0, 0)", x.read(0, 0), 0);
        check.due("read(0, 1)", x.read(0, 1), 1);
        check.badState(x, "read(0, 2)", () -> x.read(0, 2));
        check.badState(x, "read(0, 40)", () -> x.read(0, 40));
        LedgerStore y = Stores.withLedger(1, 1, 1, 1);
        y.recover(0);
        check.badState(y, "read(0, 0) of an empty ledger", () -> y.read(0, 0));
    }

    private static void readsNothingWhileRecovering() {
        check.part("there are none if it is RECOVERING");
        LedgerStore x = Stores.withLedger(2, 2, 2, 1);
        Stores.appendMany(x, 0, 2);
        x.deliverAll();
        check.due("read(0, 1)", x.read(0, 1), 1);
        x.crash(1);
        x.recover(0);
        check.badState(x, "read(0, 0)", () -> x.read(0, 0));
        check.badState(x, "read(0, 1)", () -> x.read(0, 1));
        check.badArgument(x, "read(0, -1)", () -> x.read(0, -1));
        check.due("lastReadable(0)", x.lastReadable(0), NONE);
        check.due("underReplicated(0)", x.underReplicated(0), 0);
    }

    private static void readsNone() {
        check.part("read: NONE if no node from which it could be read is up and stores it");
        LedgerStore x = Stores.withLedger(3, 3, 3, 2);
        x.append(0, 7);
        x.deliver(0);
        x.deliver(1);
        x.crash(0);
        check.due("read(0, 0) from the second of its nodes", x.read(0, 0), 7);
        x.crash(1);
        check.due("read(0, 0): node 2 is up and does not store it", x.read(0, 0), NONE);
        x.deliver(2);
        check.due("read(0, 0) from the last of its nodes", x.read(0, 0), 7);
        x.crash(2);
        check.due("read(0, 0): all are down", x.read(0, 0), NONE);
        x.restart(0);
        check.due("read(0, 0) from the first of its nodes", x.read(0, 0), 7);
    }

    // Entry 0 was stored by node 0, which position 2 holds now: in the ensemble, outside its write set.
    private static LedgerStore withStoredOutside() {
        LedgerStore x = Stores.withLedger(4, 3, 2, 2);
        x.append(0, 7);
        x.replace(0, 0);
        x.replace(0, 2);
        x.deliver(0);
        x.deliver(1);
        x.deliver(3);
        return x;
    }

    private static void readsInTheWriteSet() {
        check.part("an entry is read from a node of its write set");
        LedgerStore x = withStoredOutside();
        check.due("member(0, 0, 2)", x.member(0, 0, 2), 0);
        check.due("holders(0, 0)", x.holders(0, 0), 1 + 2 + 8);
        x.crash(1);
        check.due("read(0, 0)", x.read(0, 0), 7);
        x.crash(3);
        check.due("read(0, 0) with node 0 alone", x.read(0, 0), NONE);
    }

    private static void fewerThanW() {
        check.part("under-replicated: fewer than W nodes of its write set are up and store it");
        for (int w = 1; w <= 5; w++) {
            LedgerStore x = Stores.withLedger(5, 5, w, 1);
            x.append(0, 1);
            for (int n = 0; n < w; n++) {
                check.due("underReplicated(0) with " + n + " of " + w, x.underReplicated(0), n == 0 ? 0 : 1);
                x.deliver(n);
            }
            check.due("underReplicated(0) with all " + w, x.underReplicated(0), 0);
            x.crash(w - 1);
            check.due("underReplicated(0) with one down", x.underReplicated(0), 1);
            x.restart(w - 1);
            check.due("underReplicated(0) with all up", x.underReplicated(0), 0);
        }
        LedgerStore y = withStoredOutside();
        check.due("underReplicated(0)", y.underReplicated(0), 0);
        y.crash(3);
        check.due("underReplicated(0): node 0 does not belong to the write set", y.underReplicated(0), 1);
    }

    private static void underReplicatedFromNoneToForty() {
        check.part("underReplicated counts the readable entries: 0 to 40");
        LedgerStore x = Stores.withLedger(2, 2, 2, 1);
        check.due("underReplicated(0) without entries", x.underReplicated(0), 0);
        Stores.appendMany(x, 0, 40);
        for (int e = 0; e < 40; e++) {
            check.due("underReplicated(0)", x.underReplicated(0), e);
            x.deliver(0);
        }
        check.due("underReplicated(0)", x.underReplicated(0), 40);
        for (int e = 0; e < 40; e++) {
            x.deliver(1);
            check.due("underReplicated(0)", x.underReplicated(0), 39 - e);
        }
        x.crash(0);
        x.crash(1);
        check.due("underReplicated(0) with all down", x.underReplicated(0), 40);
    }

    private static void underReplicatedOnlyReadable() {
        check.part("a readable entry is under-replicated: one behind the last readable is not");
        LedgerStore x = Stores.withLedger(2, 2, 2, 2);
        Stores.appendMany(x, 0, 3);
        x.deliver(0);
        x.deliver(0);
        x.deliver(1);
        check.due("underReplicated(0): entry 0 is on both", x.underReplicated(0), 0);
        x.crash(1);
        check.due("underReplicated(0): entry 0 alone is readable", x.underReplicated(0), 1);
        check.due("recover(0)", x.recover(0), 1);
        check.due("underReplicated(0): entries 0 and 1", x.underReplicated(0), 2);
        LedgerStore y = Stores.withLedger(2, 2, 2, 2);
        y.append(0, 1);
        y.recover(0);
        y.crash(0);
        check.due("underReplicated(0), CLOSED with none", y.underReplicated(0), 0);
    }

    // ---- REPAIR

    private static void repairsOnlyClosed() {
        check.part("a CLOSED ledger can be repaired; repair throws if the ledger is not CLOSED");
        twins.badState("repair(0), OPEN", Stores::busy, x -> x.repair(0));
        twins.badState("repair(2), RECOVERING", Stores::busy, x -> x.repair(2));
        LedgerStore y = Twins.after(Stores::busy);
        check.due("repair(1), CLOSED", y.repair(1), 1);
    }

    private static void repairsNothing() {
        check.part("repair returns the number of copies that were made: 0 if nothing lacks");
        LedgerStore x = Stores.withLedger(4, 3, 2, 2);
        Stores.appendMany(x, 0, 5);
        x.deliverAll();
        x.recover(0);
        check.due("repair(0)", x.repair(0), 0);
        x.crash(3);
        check.due("repair(0) with a node down outside the ensemble", x.repair(0), 0);
        for (int p = 0; p < 3; p++) {
            check.due("member(0, 0, " + p + ")", x.member(0, 0, p), p);
        }
    }

    private static void repairsEmptyLedger() {
        check.part("position by position of its ensemble, also of a ledger without entries");
        LedgerStore x = Stores.withLedger(5, 2, 2, 1);
        x.recover(0);
        x.crash(0);
        x.crash(1);
        check.due("repair(0)", x.repair(0), 0);
        check.due("member(0, 0, 0)", x.member(0, 0, 0), 2);
        check.due("member(0, 0, 1)", x.member(0, 0, 1), 3);
        check.due("fragmentCount(0)", x.fragmentCount(0), 1);
    }

    // Closed with 3 entries on the nodes 0 and 1 of so many.
    private static LedgerStore closedOnTwo(int nodes) {
        LedgerStore x = Stores.withLedger(nodes, 2, 2, 2);
        Stores.appendMany(x, 0, 3);
        x.deliverAll();
        x.recover(0);
        return x;
    }

    private static void repairsWithNoNode() {
        check.part("if there is one, it takes the position; there may be none");
        LedgerStore x = closedOnTwo(2);
        x.crash(1);
        check.due("repair(0)", x.repair(0), 0);
        check.due("member(0, 0, 1)", x.member(0, 0, 1), 1);
        check.due("underReplicated(0)", x.underReplicated(0), 3);
        x.crash(0);
        check.due("repair(0) with all down", x.repair(0), 0);
        check.due("member(0, 0, 0)", x.member(0, 0, 0), 0);
    }

    private static void repairsWithOneNode() {
        check.part("position by position: the first one that is down takes the only node");
        LedgerStore x = closedOnTwo(3);
        x.crash(0);
        check.due("repair(0)", x.repair(0), 3);
        check.due("member(0, 0, 0)", x.member(0, 0, 0), 2);
        check.due("isFenced(2, 0)", x.isFenced(2, 0), false);
        check.due("underReplicated(0)", x.underReplicated(0), 0);
        LedgerStore y = closedOnTwo(3);
        y.crash(0);
        y.crash(1);
        check.due("repair(0) with both down", y.repair(0), 0);
        check.due("member(0, 0, 0)", y.member(0, 0, 0), 2);
        check.due("member(0, 0, 1)", y.member(0, 0, 1), 1);
        check.due("read(0, 0)", y.read(0, 0), NONE);
    }

    private static void repairsWithTheLightest() {
        check.part("a node is chosen for the ensemble: the lightest, of several the lowest");
        LedgerStore x = closedOnTwo(5);
        x.createLedger(1, 1, 1);
        x.append(1, 1);
        x.deliverAll();
        check.due("member(1, 0, 0)", x.member(1, 0, 0), 2);
        x.crash(1);
        check.due("repair(0)", x.repair(0), 3);
        check.due("member(0, 0, 1)", x.member(0, 0, 1), 3);
        check.due("holders(0, 2)", x.holders(0, 2), 1 + 2 + 8);
    }

    private static void repairsWhatCanBeRead() {
        check.part("if the entry can be read, it is copied");
        LedgerStore x = Stores.withLedger(3, 2, 1, 1);
        Stores.appendMany(x, 0, 4);
        x.deliverAll();
        x.recover(0);
        x.crash(0);
        check.due("repair(0): the entries 0 and 2 can't be read", x.repair(0), 0);
        check.due("member(0, 0, 0)", x.member(0, 0, 0), 2);
        check.due("weight(2)", x.weight(2), 0);
        check.due("read(0, 0)", x.read(0, 0), NONE);
        check.due("read(0, 1)", x.read(0, 1), 1);
        LedgerStore y = Stores.withLedger(3, 2, 2, 1);
        Stores.appendMany(y, 0, 2);
        y.deliver(0);
        y.deliverAll();
        y.recover(0);
        y.crash(0);
        check.due("repair(0): all can be read from node 1", y.repair(0), 2);
    }

    private static void repairsBehindALostEntry() {
        check.part("for each readable entry: if one can't be read, those behind it are copied all the same");
        LedgerStore x = Stores.withLedger(5, 3, 2, 2);
        Stores.appendMany(x, 0, 3);
        x.deliverAll();
        check.due("recover(0)", x.recover(0), 2);
        x.crash(0);
        x.crash(1);
        check.due("repair(0)", x.repair(0), 2);
        check.due("holders(0, 0): on the nodes 0 and 1 alone", x.holders(0, 0), 1 + 2);
        check.due("holders(0, 1): copied to node 4", x.holders(0, 1), 2 + 4 + 16);
        check.due("holders(0, 2): copied to node 3", x.holders(0, 2), 1 + 4 + 8);
        check.due("read(0, 0)", x.read(0, 0), NONE);
        check.due("read(0, 1)", x.read(0, 1), 1);
        check.due("underReplicated(0)", x.underReplicated(0), 1);
    }

    private static void repairsToTheLastEntry() {
        check.part("each readable entry: the last one is copied, one behind it is not");
        LedgerStore x = Stores.withLedger(2, 2, 2, 2);
        Stores.appendMany(x, 0, 3);
        Stores.deliverMany(x, 0, 2);
        x.deliver(1);
        x.crash(0);
        check.due("recover(0) with node 0 down", x.recover(0), 0);
        x.restart(0);
        check.due("repair(0)", x.repair(0), 0);
        check.due("holders(0, 1), stored behind the last entry", x.holders(0, 1), 1);
        LedgerStore y = Stores.withLedger(2, 2, 2, 2);
        Stores.appendMany(y, 0, 3);
        Stores.deliverMany(y, 0, 2);
        y.crash(1);
        check.due("recover(0) with node 1 down", y.recover(0), 1);
        y.restart(1);
        check.due("repair(0)", y.repair(0), 2);
        check.due("holders(0, 1), the last entry", y.holders(0, 1), 3);
        check.due("holders(0, 2)", y.holders(0, 2), 0);
    }

    // Node 3 is empty until the last fragment has got it too: then only entries are copied.
    private static void repairsEveryFragment() {
        check.part("fragment by fragment, from the first to the last; then, for each readable entry");
        LedgerStore x = Stores.withLedger(5, 2, 2, 2);
        Stores.appendMany(x, 0, 2);
        x.deliverAll();
        check.due("replace(0, 0)", x.replace(0, 0), 2);
        Stores.appendMany(x, 0, 2);
        x.deliverAll();
        check.due("recover(0)", x.recover(0), 3);
        x.crash(1);
        check.due("repair(0)", x.repair(0), 4);
        check.due("member(0, 0, 0)", x.member(0, 0, 0), 0);
        check.due("member(0, 0, 1)", x.member(0, 0, 1), 3);
        check.due("member(0, 1, 0)", x.member(0, 1, 0), 2);
        check.due("member(0, 1, 1)", x.member(0, 1, 1), 3);
        check.due("underReplicated(0)", x.underReplicated(0), 0);
    }

    private static void repairsFortyEntries() {
        check.part("each readable entry in ascending order: all 40, on all W nodes");
        LedgerStore x = Stores.withLedger(5, 5, 5, 5);
        Stores.appendMany(x, 0, 40);
        Stores.deliverMany(x, 2, 40);
        for (int n : new int[] {0, 1, 3, 4}) {
            x.crash(n);
        }
        check.due("recover(0): only 4 of 5 are down", x.recover(0), 39);
        for (int n : new int[] {0, 1, 3, 4}) {
            x.restart(n);
        }
        check.due("underReplicated(0)", x.underReplicated(0), 40);
        check.due("repair(0)", x.repair(0), 160);
        check.due("underReplicated(0)", x.underReplicated(0), 0);
        check.due("holders(0, 39)", x.holders(0, 39), 31);
        check.due("weight(4)", x.weight(4), 40);
    }
}
