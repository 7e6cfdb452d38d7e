import java.util.ArrayDeque;
import java.util.ArrayList;
import java.util.Deque;
import java.util.HashMap;
import java.util.HashSet;
import java.util.List;
import java.util.Map;
import java.util.Set;
import java.util.TreeSet;

/**
 * The document written down once more with the library's collections, as directly as it reads:
 * the random runs compare LedgerStore with it. It shares no code with LedgerStore.
 */
final class PlainStore {
    record Key(int ledger, int entry) {
    }

    record Value(int payload, int confirmed) {
    }

    record Request(Key key, Value value) {
    }

    static final class Machine {
        boolean up = true;
        Set<Integer> fenced = new HashSet<>();
        Map<Key, Value> disk = new HashMap<>();
        Deque<Request> inbox = new ArrayDeque<>();

        Machine copy() {
            Machine m = new Machine();
            m.up = up;
            m.fenced = new HashSet<>(fenced);
            m.disk = new HashMap<>(disk);
            m.inbox = new ArrayDeque<>(inbox);
            return m;
        }
    }

    static final class Fragment {
        int first;
        List<Integer> ensemble = new ArrayList<>();

        Fragment copy() {
            Fragment f = new Fragment();
            f.first = first;
            f.ensemble = new ArrayList<>(ensemble);
            return f;
        }
    }

    static final class Log {
        int e;
        int w;
        int a;
        int state = 0;
        int last = -1;
        List<Integer> payloads = new ArrayList<>();
        List<Set<Integer>> acks = new ArrayList<>();
        List<Fragment> fragments = new ArrayList<>();

        Log copy() {
            Log l = new Log();
            l.e = e;
            l.w = w;
            l.a = a;
            l.state = state;
            l.last = last;
            l.payloads = new ArrayList<>(payloads);
            for (Set<Integer> s : acks) {
                l.acks.add(new TreeSet<>(s));
            }
            for (Fragment f : fragments) {
                l.fragments.add(f.copy());
            }
            return l;
        }

        Fragment lastFragment() {
            return fragments.get(fragments.size() - 1);
        }

        Fragment fragmentOf(int entry) {
            Fragment found = null;
            for (Fragment f : fragments) {
                if (f.first <= entry) {
                    found = f;
                }
            }
            return found;
        }

        List<Integer> writeSet(Fragment f, int entry) {
            List<Integer> set = new ArrayList<>();
            for (int i = 0; i < w; i++) {
                set.add(f.ensemble.get((entry + i) % e));
            }
            return set;
        }

        List<Integer> writeSet(int entry) {
            return writeSet(fragmentOf(entry), entry);
        }

        int confirmed() {
            int greatest = -1;
            for (int entry = 0; entry < acks.size(); entry++) {
                if (acks.get(entry).size() < a) {
                    break;
                }
                greatest = entry;
            }
            return greatest;
        }

        int readable() {
            return state == 0 ? confirmed() : state == 2 ? last : -1;
        }
    }

    static final class Whole {
        int rejections = 0;
        List<Machine> machines = new ArrayList<>();
        List<Log> logs = new ArrayList<>();

        Whole copy() {
            Whole c = new Whole();
            c.rejections = rejections;
            for (Machine m : machines) {
                c.machines.add(m.copy());
            }
            for (Log l : logs) {
                c.logs.add(l.copy());
            }
            return c;
        }
    }

    private Whole s = new Whole();
    private final Deque<Whole> stack = new ArrayDeque<>();

    private void save() {
        stack.push(s.copy());
        if (stack.size() > 4) {
            stack.removeLast();
        }
    }

    private static void argument(boolean fine) {
        if (!fine) {
            throw new IllegalArgumentException();
        }
    }

    private static void present(boolean fine) {
        if (!fine) {
            throw new IllegalStateException();
        }
    }

    private Machine machine(int node) {
        argument(node >= 0 && node < s.machines.size());
        return s.machines.get(node);
    }

    private Log log(int ledger) {
        argument(ledger >= 0 && ledger < s.logs.size());
        return s.logs.get(ledger);
    }

    int nodeCount() {
        return s.machines.size();
    }

    private int choose(List<Integer> ensemble) {
        int best = -1;
        for (int n = s.machines.size() - 1; n >= 0; n--) {
            Machine m = s.machines.get(n);
            if (m.up && !ensemble.contains(n)
                    && (best < 0 || m.disk.size() <= s.machines.get(best).disk.size())) {
                best = n;
            }
        }
        return best;
    }

    private void send(int node, Request r) {
        Machine m = s.machines.get(node);
        if (m.up && m.inbox.size() < 100) {
            m.inbox.addLast(r);
        }
    }

    private int process(int node) {
        Machine m = s.machines.get(node);
        if (m.inbox.isEmpty()) {
            return -1;
        }
        Request r = m.inbox.removeFirst();
        if (m.fenced.contains(r.key().ledger())) {
            s.rejections++;
            return 0;
        }
        m.disk.put(r.key(), r.value());
        Log l = s.logs.get(r.key().ledger());
        if (l.state == 0 && l.writeSet(r.key().entry()).contains(node)) {
            l.acks.get(r.key().entry()).add(node);
        }
        return 1;
    }

    int addNode() {
        present(s.machines.size() < 8);
        save();
        s.machines.add(new Machine());
        return s.machines.size() - 1;
    }

    int crash(int node) {
        present(machine(node).up);
        save();
        Machine m = machine(node);
        int lost = m.inbox.size();
        m.inbox.clear();
        m.up = false;
        return lost;
    }

    int restart(int node) {
        present(!machine(node).up);
        save();
        machine(node).up = true;
        return weight(node);
    }

    int deliver(int node) {
        present(machine(node).up);
        save();
        return process(node);
    }

    int deliverAll() {
        save();
        int count = 0;
        boolean more = true;
        while (more) {
            more = false;
            for (int n = 0; n < s.machines.size(); n++) {
                int answer = process(n);
                more |= answer >= 0;
                count += answer == 1 ? 1 : 0;
            }
        }
        return count;
    }

    int inboxLength(int node) {
        return machine(node).inbox.size();
    }

    int weight(int node) {
        return machine(node).disk.size();
    }

    float share(int node) {
        float own = machine(node).disk.size();
        float sum = s.machines.stream().mapToInt(m -> m.disk.size()).sum();
        return sum == 0 ? 0.0f : own / sum;
    }

    boolean isFenced(int node, int ledger) {
        log(ledger);
        return machine(node).fenced.contains(ledger);
    }

    int rejections() {
        return s.rejections;
    }

    int createLedger(int e, int w, int a) {
        argument(e >= 1 && e <= 5 && w >= 1 && w <= e && a >= 1 && a <= w);
        present(s.logs.size() < 4 && s.machines.stream().filter(m -> m.up).count() >= e);
        save();
        Log l = new Log();
        l.e = e;
        l.w = w;
        l.a = a;
        Fragment f = new Fragment();
        while (f.ensemble.size() < e) {
            f.ensemble.add(choose(f.ensemble));
        }
        l.fragments.add(f);
        s.logs.add(l);
        return s.logs.size() - 1;
    }

    int append(int ledger, int payload) {
        Log l = log(ledger);
        argument(payload >= 0 && payload <= 999);
        present(l.state == 0 && l.payloads.size() < 40);
        save();
        int entry = l.payloads.size();
        Request r = new Request(new Key(ledger, entry), new Value(payload, l.confirmed()));
        l.payloads.add(payload);
        l.acks.add(new TreeSet<>());
        for (int node : l.writeSet(entry)) {
            send(node, r);
        }
        return entry;
    }

    int replace(int ledger, int position) {
        Log l = log(ledger);
        argument(position >= 0 && position < l.e);
        present(l.state == 0);
        int chosen = choose(l.lastFragment().ensemble);
        present(chosen >= 0);
        save();
        int confirmed = l.confirmed();
        int f = confirmed + 1;
        int replaced = l.lastFragment().ensemble.get(position);
        if (l.lastFragment().first != f) {
            Fragment added = l.lastFragment().copy();
            added.first = f;
            l.fragments.add(added);
        }
        l.lastFragment().ensemble.set(position, chosen);
        for (int entry = f; entry < l.acks.size(); entry++) {
            l.acks.get(entry).remove(replaced);
        }
        for (int entry = f; entry < l.acks.size(); entry++) {
            if (l.writeSet(entry).contains(chosen)) {
                send(chosen, new Request(new Key(ledger, entry), new Value(l.payloads.get(entry), confirmed)));
            }
        }
        return chosen;
    }

    int recover(int ledger) {
        Log l = log(ledger);
        present(l.state != 2);
        save();
        l.state = 1;
        Fragment f = l.lastFragment();
        List<Machine> alive = new ArrayList<>();
        for (int node : f.ensemble) {
            if (machine(node).up) {
                alive.add(machine(node));
                machine(node).fenced.add(ledger);
            }
        }
        for (int entry = 0; entry < 40; entry++) {
            if (l.writeSet(f, entry).stream().filter(n -> !machine(n).up).count() >= l.a) {
                return -2;
            }
        }
        int c = f.first - 1;
        for (Machine m : alive) {
            for (Map.Entry<Key, Value> stored : m.disk.entrySet()) {
                if (stored.getKey().ledger() == ledger && stored.getValue().confirmed() > c) {
                    c = stored.getValue().confirmed();
                }
            }
        }
        int entry = c + 1;
        while (entry < 40) {
            Value source = source(l, ledger, entry);
            if (source == null) {
                break;
            }
            fill(l, ledger, entry, new Value(source.payload(), entry - 1));
            entry++;
        }
        l.state = 2;
        l.last = entry - 1;
        return l.last;
    }

    private Value source(Log l, int ledger, int entry) {
        for (int node : l.writeSet(entry)) {
            Value v = machine(node).disk.get(new Key(ledger, entry));
            if (machine(node).up && v != null) {
                return v;
            }
        }
        return null;
    }

    private int fill(Log l, int ledger, int entry, Value v) {
        int copies = 0;
        for (int node : l.writeSet(entry)) {
            if (machine(node).up && machine(node).disk.putIfAbsent(new Key(ledger, entry), v) == null) {
                copies++;
            }
        }
        return copies;
    }

    int repair(int ledger) {
        Log l = log(ledger);
        present(l.state == 2);
        save();
        for (Fragment f : l.fragments) {
            for (int p = 0; p < l.e; p++) {
                if (!machine(f.ensemble.get(p)).up && choose(f.ensemble) >= 0) {
                    f.ensemble.set(p, choose(f.ensemble));
                }
            }
        }
        int copies = 0;
        for (int entry = 0; entry <= l.last; entry++) {
            Value v = source(l, ledger, entry);
            copies += v == null ? 0 : fill(l, ledger, entry, v);
        }
        return copies;
    }

    int read(int ledger, int entry) {
        Log l = log(ledger);
        argument(entry >= 0);
        present(entry <= l.readable());
        Value v = source(l, ledger, entry);
        return v == null ? -1 : v.payload();
    }

    int state(int ledger) {
        return log(ledger).state;
    }

    int lastReadable(int ledger) {
        return log(ledger).readable();
    }

    int appended(int ledger) {
        return log(ledger).payloads.size();
    }

    int acknowledgements(int ledger, int entry) {
        Log l = log(ledger);
        argument(entry >= 0 && entry < l.acks.size());
        return l.acks.get(entry).size();
    }

    int holders(int ledger, int entry) {
        Log l = log(ledger);
        argument(entry >= 0 && entry < l.payloads.size());
        int mask = 0;
        for (int n = 0; n < s.machines.size(); n++) {
            mask += machine(n).disk.containsKey(new Key(ledger, entry)) ? 1 << n : 0;
        }
        return mask;
    }

    int fragmentCount(int ledger) {
        return log(ledger).fragments.size();
    }

    int firstEntry(int ledger, int fragment) {
        Log l = log(ledger);
        argument(fragment >= 0 && fragment < l.fragments.size());
        return l.fragments.get(fragment).first;
    }

    int member(int ledger, int fragment, int position) {
        Log l = log(ledger);
        argument(fragment >= 0 && fragment < l.fragments.size() && position >= 0 && position < l.e);
        return l.fragments.get(fragment).ensemble.get(position);
    }

    int underReplicated(int ledger) {
        Log l = log(ledger);
        int count = 0;
        for (int entry = 0; entry <= l.readable(); entry++) {
            Key key = new Key(ledger, entry);
            long fine = l.writeSet(entry).stream()
                    .filter(n -> machine(n).up && machine(n).disk.containsKey(key)).count();
            count += fine < l.w ? 1 : 0;
        }
        return count;
    }

    int undo() {
        present(!stack.isEmpty());
        s = stack.pop();
        return stack.size();
    }

    long digest() {
        List<Integer> values = new ArrayList<>(List.of(stack.size(), s.rejections, s.machines.size()));
        for (int n = 0; n < s.machines.size(); n++) {
            values.addAll(List.of(machine(n).up ? 1 : 0, inboxLength(n), weight(n), Float.floatToIntBits(share(n))));
        }
        values.add(s.logs.size());
        for (int l = 0; l < s.logs.size(); l++) {
            Log g = log(l);
            values.addAll(List.of(g.e, g.w, g.a, state(l), lastReadable(l), appended(l), underReplicated(l),
                    fragmentCount(l)));
            for (Fragment f : g.fragments) {
                values.add(f.first);
                values.addAll(f.ensemble);
            }
            for (int e = 0; e < g.payloads.size(); e++) {
                values.addAll(List.of(g.payloads.get(e), acknowledgements(l, e), holders(l, e)));
            }
            for (int n = 0; n < s.machines.size(); n++) {
                values.add(isFenced(n, l) ? 1 : 0);
            }
        }
        long h = 12109;
        for (int v : values) {
            h = 31 * h + v;
        }
        return h;
    }
}
