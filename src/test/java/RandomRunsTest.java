import java.util.ArrayList;
import java.util.List;
import java.util.function.IntSupplier;

/** Runs of 512 calls, drawn by a fixed generator, on LedgerStore and on PlainStore at once. */
public final class RandomRunsTest {
    private static final int RUNS = 2000;
    private static final int CALLS = 512;
    private static final int DIGEST_EACH = 4;
    private static final int SHOWN = 20;

    // How often each call is drawn, by profile: the profiles drive runs into the document's edges.
    private static final String[] CALL_NAMES = {
        "addNode", "crash", "restart", "deliver", "deliverAll", "createLedger", "append", "replace", "recover",
        "repair", "undo",
    };
    private static final int[][] PROFILES = {
        {4, 6, 8, 30, 2, 3, 30, 8, 2, 3, 4},    // mixed
        {4, 2, 4, 20, 6, 4, 60, 2, 0, 0, 1},    // ledgers that fill up
        {3, 1, 3, 2, 0, 6, 90, 1, 0, 0, 0},     // inboxes that fill up
        {6, 8, 12, 10, 10, 2, 20, 30, 0, 0, 2}, // many fragments
        {6, 12, 16, 10, 6, 3, 20, 5, 8, 12, 6}, // recovery and repair
        {5, 3, 3, 20, 3, 3, 20, 3, 3, 3, 25},   // undo
        {6, 2, 6, 40, 1, 4, 40, 20, 1, 1, 1},   // requests that come late
    };

    private final int profile;
    private final int nodeLimit;
    private long seed;
    private final LedgerStore real = new LedgerStore();
    private final PlainStore plain = new PlainStore();
    private final List<String> calls = new ArrayList<>();

    private RandomRunsTest(int run) {
        seed = run * 7919L + 17;
        profile = run % PROFILES.length;
        nodeLimit = 1 + draw(8);
    }

    public static void main(String[] args) {
        int wrong = 0;
        for (int run = 0; run < RUNS && wrong < 3; run++) {
            RandomRunsTest test = new RandomRunsTest(run);
            String fault = test.firstFault();
            if (fault != null) {
                wrong++;
                int from = Math.max(0, test.calls.size() - SHOWN);
                System.out.println("run " + run + ", call " + test.calls.size() + ": " + fault + ", after .. "
                        + test.calls.subList(from, test.calls.size()));
            }
        }
        System.out.println("RandomRunsTest: " + (wrong == 0 ? RUNS + " runs agree" : "runs disagree"));
        if (wrong != 0) {
            System.exit(1);
        }
    }

    private int draw(int bound) {
        seed = seed * 6364136223846793005L + 1442695040888963407L;
        return (int) ((seed >>> 33) % bound);
    }

    // The digests are calls too.
    private String firstFault() {
        while (calls.size() < CALLS) {
            String fault = calls.size() % DIGEST_EACH == DIGEST_EACH - 1 ? sameDigest()
                    : draw(4) == 0 ? question() : change();
            if (fault != null) {
                return fault;
            }
        }
        return null;
    }

    private String sameDigest() {
        calls.add("digest()");
        return real.digest() == plain.digest() ? null : "the digests differ";
    }

    private String drawCall() {
        int[] weights = PROFILES[profile];
        int sum = 0;
        for (int w : weights) {
            sum += w;
        }
        int at = draw(sum);
        for (int i = 0; i < weights.length; i++) {
            at -= weights[i];
            if (at < 0) {
                return CALL_NAMES[i];
            }
        }
        return "deliverAll";
    }

    // Mostly a number that may exist, at times one that can't.
    private int number(int bound) {
        int kind = draw(40);
        return kind == 0 ? -1 - draw(3) : kind == 1 ? bound + draw(3) : kind == 2 ? Integer.MAX_VALUE
                : kind == 3 ? Integer.MIN_VALUE : draw(bound);
    }

    private String change() {
        int a = number(4);
        int b = number(5);
        int node = number(Math.max(1, nodeLimit));
        switch (drawCall()) {
            case "addNode":
                return plain.nodeCount() >= nodeLimit && draw(10) != 0 ? null
                        : both("addNode()", () -> real.addNode(), () -> plain.addNode());
            case "crash":
                return both("crash(" + node + ")", () -> real.crash(node), () -> plain.crash(node));
            case "restart":
                return both("restart(" + node + ")", () -> real.restart(node), () -> plain.restart(node));
            case "deliver":
                return both("deliver(" + node + ")", () -> real.deliver(node), () -> plain.deliver(node));
            case "createLedger":
                return create();
            case "append":
                int payload = number(1000);
                return both("append(" + a + ", " + payload + ")", () -> real.append(a, payload),
                        () -> plain.append(a, payload));
            case "replace":
                return both("replace(" + a + ", " + b + ")", () -> real.replace(a, b), () -> plain.replace(a, b));
            case "recover":
                return both("recover(" + a + ")", () -> real.recover(a), () -> plain.recover(a));
            case "repair":
                return both("repair(" + a + ")", () -> real.repair(a), () -> plain.repair(a));
            case "undo":
                return both("undo()", () -> real.undo(), () -> plain.undo());
            default:
                return both("deliverAll()", () -> real.deliverAll(), () -> plain.deliverAll());
        }
    }

    private String create() {
        int e = 1 + draw(Math.min(5, nodeLimit));
        int w = 1 + draw(e);
        int a = 1 + draw(w);
        int wrong = draw(30);
        int size = wrong == 0 ? number(7) : e;
        int writes = wrong == 1 ? number(7) : w;
        int acks = wrong == 2 ? number(7) : a;
        return both("createLedger(" + size + ", " + writes + ", " + acks + ")",
                () -> real.createLedger(size, writes, acks), () -> plain.createLedger(size, writes, acks));
    }

    private String question() {
        int l = number(4);
        int e = number(40);
        int n = number(8);
        int p = number(5);
        switch (draw(15)) {
            case 0: return both("inboxLength(" + n + ")", () -> real.inboxLength(n), () -> plain.inboxLength(n));
            case 1: return both("weight(" + n + ")", () -> real.weight(n), () -> plain.weight(n));
            case 2: return both("share(" + n + ")", () -> Float.floatToIntBits(real.share(n)),
                    () -> Float.floatToIntBits(plain.share(n)));
            case 3: return both("isFenced(" + n + ", " + l + ")", () -> real.isFenced(n, l) ? 1 : 0,
                    () -> plain.isFenced(n, l) ? 1 : 0);
            case 4: return both("rejections()", () -> real.rejections(), () -> plain.rejections());
            case 5: return both("read(" + l + ", " + e + ")", () -> real.read(l, e), () -> plain.read(l, e));
            case 6: return both("state(" + l + ")", () -> real.state(l), () -> plain.state(l));
            case 7: return both("lastReadable(" + l + ")", () -> real.lastReadable(l), () -> plain.lastReadable(l));
            case 8: return both("appended(" + l + ")", () -> real.appended(l), () -> plain.appended(l));
            case 9: return both("acknowledgements(" + l + ", " + e + ")", () -> real.acknowledgements(l, e),
                    () -> plain.acknowledgements(l, e));
            case 10: return both("holders(" + l + ", " + e + ")", () -> real.holders(l, e), () -> plain.holders(l, e));
            case 11: return both("firstEntry(" + l + ", " + n + ")", () -> real.firstEntry(l, n),
                    () -> plain.firstEntry(l, n));
            case 12: return both("member(" + l + ", " + n + ", " + p + ")", () -> real.member(l, n, p),
                    () -> plain.member(l, n, p));
            case 13: return both("fragmentCount(" + l + ")", () -> real.fragmentCount(l), () -> plain.fragmentCount(l));
            default: return both("underReplicated(" + l + ")", () -> real.underReplicated(l),
                    () -> plain.underReplicated(l));
        }
    }

    private String both(String call, IntSupplier ofReal, IntSupplier ofPlain) {
        calls.add(call);
        long got = answer(ofReal);
        long want = answer(ofPlain);
        return got == want ? null : call + " answered " + told(got) + ", due is " + told(want);
    }

    private static final long ARGUMENT = 1L << 40;
    private static final long STATE = 1L << 41;
    private static final long OTHER = 1L << 42;

    private static long answer(IntSupplier call) {
        try {
            return call.getAsInt();
        } catch (RuntimeException e) {
            return e.getClass() == IllegalArgumentException.class ? ARGUMENT
                    : e.getClass() == IllegalStateException.class ? STATE : OTHER;
        }
    }

    private static String told(long answer) {
        return answer == ARGUMENT ? "IllegalArgumentException" : answer == STATE ? "IllegalStateException"
                : answer == OTHER ? "another exception" : String.valueOf(answer);
    }
}
