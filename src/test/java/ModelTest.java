import java.util.ArrayDeque;
import java.util.ArrayList;
import java.util.Arrays;
import java.util.Deque;
import java.util.HashSet;
import java.util.List;
import java.util.Map;
import java.util.Random;
import java.util.Set;
import java.util.TreeMap;
import java.util.TreeSet;

/**
 * Long random runs, each call answered by the class and by a second reading of the document with library lists.
 * The seeds are fixed. A run that never met some answer proves nothing about it, so the answers met are checked too.
 */
public final class ModelTest {
    private static final int RUNS = 4000;
    /** With the calls that compare at the end an object stays within its 512. */
    private static final int CALLS = 450;
    private static final String[] NAMES = {"tick", "skew", "crash", "recover", "elect", "beat", "ship", "begin", "read",
        "write", "commit", "abort", "step", "state", "stamp", "snapshot", "safe", "length", "known", "leader"};
    private static final Map<String, Set<Integer>> MET = new TreeMap<>();

    public static void main(String[] args) {
        for (int seed = 0; seed < RUNS; seed++) {
            String fault = runOnce(seed);
            if (fault != null) {
                System.out.println("seed " + seed + ": " + fault);
                System.exit(1);
            }
        }
        int missing = 0;
        missing += unmet("elect", -1, 0, 3);
        missing += unmet("beat", -1, -6, -7);
        missing += unmet("ship", -1, -5, 60);
        missing += unmet("begin", -1, 0, 15);
        missing += unmet("read", -1, -2, -3, -4, 0, 999);
        missing += unmet("write", 0, 1);
        missing += unmet("commit", -1, -2, -3, -4, -6, -7, 1, 2, 3, 4);
        missing += unmet("step", -1, -3, -6, -7, 0, 1, 2, 3, 4);
        missing += unmet("stamp", -1, 0);
        missing += unmet("snapshot", -1, -4, -8, 0, 999);
        missing += unmet("safe", -1);
        missing += unmet("length", -1, 0, 60);
        missing += unmet("known", -1, 0, 60);
        missing += unmet("leader", -1, 0, 1, 2, 3, 4, 5);
        System.out.println(RUNS + " runs of " + CALLS + " calls are as the model has them; answers never met: " + missing);
        if (missing != 0) {
            System.exit(1);
        }
    }

    private static int unmet(String name, int... answers) {
        int missing = 0;
        for (int answer : answers) {
            if (!MET.getOrDefault(name, Set.of()).contains(answer)) {
                System.out.println(name + " never answered " + answer);
                missing++;
            }
        }
        return missing;
    }

    private static String runOnce(int seed) {
        Random random = new Random(seed);
        int eps = seed % 13 - 1;
        StampedStore store = new StampedStore(eps);
        Model model = new Model(eps);
        Caller caller = new Caller(random, model, seed);
        List<String> told = new ArrayList<>();
        for (int call = 0; call < CALLS; call++) {
            int[] next = caller.next();
            String text = NAMES[next[0]] + Arrays.toString(Arrays.copyOfRange(next, 1, 4));
            int due = model.call(next[0], next[1], next[2], next[3]);
            int got;
            try {
                got = call(store, next[0], next[1], next[2], next[3]);
            } catch (RuntimeException thrown) {
                return text + " threw " + thrown + " after " + told;
            }
            told.add(text + "=" + got);
            MET.computeIfAbsent(NAMES[next[0]], name -> new TreeSet<>()).add(got);
            if (got != due) {
                return text + " answered " + got + ", the model " + due + " after " + told;
            }
            if (model.readyNodes(0).size() > 1 || model.readyNodes(1).size() > 1) {
                return "two nodes are ready after " + told;
            }
        }
        String difference = compare(store, model);
        return difference == null ? null : difference + " after " + told;
    }

    private static String compare(StampedStore store, Model model) {
        for (int node = 0; node < 6; node++) {
            if (store.length(node) != model.nodes[node].log.size() || store.known(node) != model.nodes[node].known
                || store.safe(node) != model.safe(node)) {
                return "node " + node + " differs";
            }
        }
        for (int t = 0; t < model.transactions.size(); t++) {
            if (store.state(t) != model.transactions.get(t).state || store.stamp(t) != model.stamp(t)) {
                return "transaction " + t + " differs";
            }
        }
        for (int group = 0; group < 2; group++) {
            Model.Node ready = model.ready(group);
            if (store.leader(group) != (ready == null ? -1 : ready.number)) {
                return "the leader of group " + group + " differs";
            }
        }
        return null;
    }

    private static int call(StampedStore store, int name, int a, int b, int c) {
        switch (NAMES[name]) {
            case "tick": return store.tick(a);
            case "skew": return store.skew(a, b) ? 1 : 0;
            case "crash": return store.crash(a) ? 1 : 0;
            case "recover": return store.recover(a) ? 1 : 0;
            case "elect": return store.elect(a);
            case "beat": return store.beat(a);
            case "ship": return store.ship(a, b);
            case "begin": return store.begin();
            case "read": return store.read(a, b);
            case "write": return store.write(a, b, c) ? 1 : 0;
            case "commit": return store.commit(a);
            case "abort": return store.abort(a) ? 1 : 0;
            case "step": return store.step(a);
            case "state": return store.state(a);
            case "stamp": return store.stamp(a);
            case "snapshot": return store.snapshot(a, b, c);
            case "safe": return store.safe(a);
            case "length": return store.length(a);
            case "known": return store.known(a);
            default: return store.leader(a);
        }
    }

    /** Chooses calls that lead somewhere: blind ones would hardly ever commit in two groups or fill a log. */
    private static final class Caller {
        private static final int[] ODD = {Integer.MIN_VALUE, -2, -1, 6, 7, 8, 16, 17, 60, 1000, Integer.MAX_VALUE};
        private final Random random;
        private final Model model;
        private final int style;
        private final Deque<int[]> plan = new ArrayDeque<>();

        Caller(Random random, Model model, int seed) {
            this.random = random;
            this.model = model;
            this.style = seed % 5;
            if (seed % 3 == 0) {
                planLeaders();
            }
            if (seed % 7 == 0) {
                planLongLog(random.nextInt(2) * 3);
            }
        }

        int[] next() {
            if (plan.isEmpty() && random.nextInt(25) == 0) {
                planTransaction();
            }
            if (plan.isEmpty() && random.nextInt(300) == 0) {
                planLateBeats(random.nextInt(2) * 3);
            }
            int[] call = plan.isEmpty() || random.nextInt(12) == 0 ? usual() : plan.poll();
            if (random.nextInt(40) == 0) {
                call[1 + random.nextInt(3)] = ODD[random.nextInt(ODD.length)];
            }
            return call;
        }

        private int[] usual() {
            int roll = random.nextInt(100);
            int node = random.nextInt(6);
            if (roll < 14) {
                return of("ship", leading(node), node / 3 * 3 + random.nextInt(3), 0);
            }
            if (roll < 24) {
                return of("ship", leading(node), besideOf(leading(node)), 0);
            }
            if (roll < 32) {
                return of("tick", 1 + random.nextInt(style == 0 ? 50 : style == 1 ? 2 : 8), 0, 0);
            }
            if (roll < (style >= 3 ? 50 : 37)) {
                return of("beat", leading(node), 0, 0);
            }
            if (roll < 53) {
                return of("elect", needsLeader(node / 3) || random.nextInt(8) == 0 ? node : 6, 0, 0);
            }
            if (roll < 56) {
                return faults(node);
            }
            if (roll < 92) {
                return ofTransactions();
            }
            if (roll < 97) {
                int time = random.nextInt(4) == 0 ? random.nextInt(200) : model.safe(node) - random.nextInt(12) + 1;
                return of("snapshot", node, node / 3 * 4 + random.nextInt(4), time);
            }
            return of(NAMES[13 + random.nextInt(7)], random.nextInt(7), random.nextInt(8), 0);
        }

        private void planLeaders() {
            plan.add(of("elect", 0, 0, 0));
            plan.add(of("ship", 0, 1, 0));
            plan.add(of("elect", 3, 0, 0));
            plan.add(of("ship", 3, 4, 0));
        }

        private void planLongLog(int node) {
            int beats = 48 + random.nextInt(12);
            for (int i = 0; i < beats; i++) {
                plan.add(of("tick", 1, 0, 0));
                plan.add(of("beat", node, 0, 0));
            }
            for (int i = 0; i < beats; i++) {
                plan.add(of("ship", node, node + 1, 0));
            }
            plan.add(of("beat", 3 - node, 0, 0));
        }

        private void planLateBeats(int node) {
            for (int i = 0; i < 40 - 2 * model.eps; i++) {
                plan.add(of("beat", node, 0, 0));
            }
        }

        /** A transaction with a few keys of one or two groups, and all that brings it to its end. */
        private void planTransaction() {
            int t = model.transactions.size() - random.nextInt(2);
            int key = style == 2 ? 0 : random.nextInt(8);
            plan.add(of("begin", 0, 0, 0));
            plan.add(of("write", t, key, random.nextInt(1000)));
            if (style != 2 && random.nextInt(3) != 0) {
                plan.add(of(random.nextBoolean() ? "write" : "read", t, random.nextInt(8), random.nextInt(1000)));
            }
            plan.add(of("commit", t, 0, 0));
            for (int i = 0; i < 3; i++) {
                planShips();
                plan.add(of("step", t, 0, 0));
                plan.add(of("tick", 1 + random.nextInt(2 * model.eps + 2), 0, 0));
            }
            plan.add(of("step", t, 0, 0));
        }

        private void planShips() {
            for (int node = 0; node < 6; node += 3) {
                int from = leading(node);
                plan.add(of("ship", from, besideOf(from), 0));
            }
        }

        private int[] faults(int node) {
            if (random.nextBoolean()) {
                return of("skew", node, random.nextInt(2 * model.eps + 1) - model.eps, 0);
            }
            if (!model.nodes[node].up) {
                return of("recover", node, 0, 0);
            }
            return of(random.nextInt(style == 4 ? 6 : 2) == 0 ? "crash" : "recover", node, 0, 0);
        }

        private int[] ofTransactions() {
            int begun = model.transactions.size();
            int t = begun == 0 ? 0 : random.nextInt(3) == 0 ? random.nextInt(begun) : begun - 1 - random.nextInt(Math.min(4, begun));
            int key = style == 2 ? random.nextInt(2) * 4 : random.nextInt(8);
            int roll = random.nextInt(100);
            if (roll < 5) {
                return of("begin", 0, 0, 0);
            }
            if (roll < 22) {
                return of("read", t, key, 0);
            }
            if (roll < 45) {
                return of("write", t, key, random.nextInt(6) == 0 ? 999 : random.nextInt(1001));
            }
            if (roll < 62) {
                return of("commit", t, 0, 0);
            }
            if (roll < 64) {
                return of("abort", t, 0, 0);
            }
            return of("step", t, 0, 0);
        }

        private boolean needsLeader(int group) {
            return model.readyNodes(group).isEmpty();
        }

        private int leading(int node) {
            for (int i = node / 3 * 3; i < node / 3 * 3 + 3; i++) {
                if (model.nodes[i].leads && random.nextInt(10) != 0) {
                    return i;
                }
            }
            return node;
        }

        private static int besideOf(int node) {
            return node / 3 * 3 + (node + 1) % 3;
        }

        private static int[] of(String name, int a, int b, int c) {
            return new int[] {Arrays.asList(NAMES).indexOf(name), a, b, c};
        }
    }

    /** The document, sentence by sentence. */
    private static final class Model {
        static final class Entry {
            int epoch;
            int stamp;
            char kind;
            int of;
            Integer outcome;
        }

        static final class Node {
            int number;
            boolean up = true;
            List<Entry> log = new ArrayList<>();
            int known;
            int epoch;
            Integer promiseTime;
            int promiseNode;
            boolean leads;
            int leaseEnd;
            int skew;
        }

        static final class Transaction {
            int number;
            int state;
            Set<Integer> read = new HashSet<>();
            Map<Integer, Integer> epochs = new TreeMap<>();
            Map<Integer, Integer> writes = new TreeMap<>();
            int stamp;

            Set<Integer> groups() {
                Set<Integer> groups = new TreeSet<>(epochs.keySet());
                for (int key : writes.keySet()) {
                    groups.add(key / 4);
                }
                return groups;
            }
        }

        final int eps;
        int time;
        final Node[] nodes = new Node[6];
        final List<Transaction> transactions = new ArrayList<>();

        Model(int eps) {
            this.eps = eps >= 0 && eps <= 10 ? eps : 5;
            for (int i = 0; i < 6; i++) {
                nodes[i] = new Node();
                nodes[i].number = i;
            }
        }

        int call(int name, int a, int b, int c) {
            boolean node = a >= 0 && a < 6;
            boolean transaction = a >= 0 && a < transactions.size();
            switch (NAMES[name]) {
                case "tick": return a < 1 || a > 50 ? -1 : (time += a);
                case "skew": return node && Math.abs((long) b) <= eps ? skew(nodes[a], b) : 0;
                case "crash": return node && nodes[a].up ? crash(nodes[a]) : 0;
                case "recover": return node && !nodes[a].up ? recover(nodes[a]) : 0;
                case "elect": return node && nodes[a].up ? elect(nodes[a]) : -1;
                case "beat": return node && nodes[a].up && nodes[a].leads ? beat(nodes[a]) : -1;
                case "ship": return node && b >= 0 && b < 6 && a != b && a / 3 == b / 3 && nodes[a].up && nodes[b].up
                    && nodes[a].leads ? ship(nodes[a], nodes[b]) : -1;
                case "begin": return begin();
                case "read": return transaction && b >= 0 && b < 8 ? read(transactions.get(a), b) : -1;
                case "write": return transaction && b >= 0 && b < 8 && c >= 0 && c < 1000
                    ? write(transactions.get(a), b, c) : 0;
                case "commit": return transaction ? commit(transactions.get(a)) : -1;
                case "abort": return transaction && transactions.get(a).state == 0 ? end(transactions.get(a), 4) - 3 : 0;
                case "step": return transaction ? step(transactions.get(a)) : -1;
                case "state": return transaction ? transactions.get(a).state : -1;
                case "stamp": return transaction ? stamp(a) : -1;
                case "snapshot": return node && b >= 0 && b < 8 && a / 3 == b / 4 && nodes[a].up && c >= 0
                    ? snapshot(nodes[a], b, c) : -1;
                case "safe": return node ? safe(a) : -1;
                case "length": return node ? nodes[a].log.size() : -1;
                case "known": return node ? nodes[a].known : -1;
                default: return a < 0 || a > 1 || readyNodes(a).isEmpty() ? -1 : readyNodes(a).get(0).number;
            }
        }

        int earliest(Node n) {
            return time + n.skew - eps;
        }

        int latest(Node n) {
            return time + n.skew + eps;
        }

        List<Node> group(int g) {
            return Arrays.asList(nodes).subList(3 * g, 3 * g + 3);
        }

        List<Node> groupOf(Node n) {
            return group(n.number / 3);
        }

        boolean active(Node n) {
            return n.leads && latest(n) < n.leaseEnd;
        }

        List<Node> readyNodes(int g) {
            List<Node> ready = new ArrayList<>();
            for (Node n : group(g)) {
                if (active(n) && n.log.subList(0, n.known).stream().anyMatch(e -> e.epoch == n.epoch)) {
                    ready.add(n);
                }
            }
            return ready;
        }

        Node ready(int g) {
            return readyNodes(g).isEmpty() ? null : readyNodes(g).get(0);
        }

        static int skew(Node n, int s) {
            n.skew = s;
            return 1;
        }

        static int crash(Node n) {
            n.up = false;
            n.leads = false;
            return 1;
        }

        static int recover(Node n) {
            n.up = true;
            return 1;
        }

        int stampFor(Node n, int... others) {
            List<Integer> all = new ArrayList<>();
            for (Entry e : n.log) {
                all.add(e.stamp);
                if (e.outcome != null) {
                    all.add(e.outcome);
                }
            }
            int stamp = latest(n);
            if (!all.isEmpty()) {
                stamp = Math.max(stamp, 1 + all.stream().max(Integer::compare).get());
            }
            for (int other : others) {
                stamp = Math.max(stamp, other);
            }
            return stamp;
        }

        int cannotWrite(Node n, int... others) {
            return n.log.size() == 60 ? -6 : stampFor(n, others) >= n.leaseEnd ? -7 : 0;
        }

        int writeEntry(Node n, char kind, int of, Integer outcome, int... others) {
            int refusal = cannotWrite(n, others);
            if (refusal != 0) {
                return refusal;
            }
            Entry e = new Entry();
            e.epoch = n.epoch;
            e.stamp = stampFor(n, others);
            e.kind = kind;
            e.of = of;
            e.outcome = outcome;
            n.log.add(e);
            return e.stamp;
        }

        void promise(Node m, Node n) {
            int until = latest(m) + 40;
            m.promiseTime = m.promiseTime != null && m.promiseTime > until ? m.promiseTime : Integer.valueOf(until);
            m.promiseNode = n.number;
        }

        static int lastEpoch(Node n) {
            return n.log.isEmpty() ? 0 : n.log.get(n.log.size() - 1).epoch;
        }

        int elect(Node n) {
            int e = n.epoch + 1;
            while (e % 3 != n.number % 3) {
                e++;
            }
            List<Node> granting = new ArrayList<>();
            for (Node m : groupOf(n)) {
                boolean free = m.promiseTime == null || earliest(m) > m.promiseTime || m.promiseNode == n.number;
                boolean notBehind = lastEpoch(n) > lastEpoch(m)
                    || lastEpoch(n) == lastEpoch(m) && n.log.size() >= m.log.size();
                if (m.up && m.epoch < e && free && notBehind) {
                    granting.add(m);
                }
            }
            for (Node m : granting) {
                m.epoch = e;
                m.leads = false;
                promise(m, n);
            }
            if (!granting.contains(n) || granting.size() < 2) {
                return 0;
            }
            n.leads = true;
            n.leaseEnd = earliest(n) + 40;
            writeEntry(n, 'B', -1, null);
            return e;
        }

        int beat(Node n) {
            int asked = 0;
            for (Node m : groupOf(n)) {
                if (m.up && m.epoch == n.epoch) {
                    promise(m, n);
                    asked++;
                }
            }
            if (asked >= 2 && earliest(n) + 40 > n.leaseEnd) {
                n.leaseEnd = earliest(n) + 40;
            }
            return active(n) ? writeEntry(n, 'B', -1, null) : -7;
        }

        int ship(Node from, Node to) {
            if (to.epoch > from.epoch) {
                from.leads = false;
                return -5;
            }
            if (to.epoch < from.epoch) {
                to.epoch = from.epoch;
                to.leads = false;
            }
            int same = 0;
            while (same < to.log.size() && same < from.log.size() && to.log.get(same).epoch == from.log.get(same).epoch) {
                same++;
            }
            if (same < to.known) {
                throw new IllegalStateException("known entries are cut");
            }
            to.log = new ArrayList<>(to.log.subList(0, same));
            if (same < from.log.size()) {
                to.log.add(from.log.get(same));
            }
            for (int i = 0; i < from.log.size(); i++) {
                int place = i;
                long in = groupOf(from).stream()
                    .filter(m -> m.log.size() > place && m.log.get(place).epoch == from.log.get(place).epoch).count();
                if (from.log.get(i).epoch == from.epoch && in >= 2 && i + 1 > from.known) {
                    from.known = i + 1;
                }
            }
            to.known = Math.max(to.known, Math.min(from.known, to.log.size()));
            return to.log.size();
        }

        int begin() {
            if (transactions.size() == 16) {
                return -1;
            }
            Transaction t = new Transaction();
            t.number = transactions.size();
            transactions.add(t);
            return t.number;
        }

        static boolean has(List<Entry> log, char kind, Transaction t) {
            return log.stream().anyMatch(e -> e.kind == kind && e.of == t.number);
        }

        static List<Entry> knownOf(Node n) {
            return n.log.subList(0, n.known);
        }

        static boolean logHolds(Node n, Transaction t) {
            boolean knownCommit = has(knownOf(n), 'C', t);
            boolean knownOutcome = has(knownOf(n), 'O', t);
            return has(n.log, 'P', t) && !(knownCommit || knownOutcome) || has(n.log, 'C', t) && !knownCommit;
        }

        boolean holds(Transaction t, int g) {
            return ready(g) != null && t.epochs.containsKey(g) && t.epochs.get(g) == ready(g).epoch;
        }

        static int end(Transaction t, int state) {
            t.state = state;
            return state;
        }

        List<int[]> versions(Node n, int key) {
            List<int[]> versions = new ArrayList<>();
            for (Entry e : knownOf(n)) {
                if (e.kind == 'C' && transactions.get(e.of).writes.containsKey(key)) {
                    versions.add(new int[] {e.stamp, transactions.get(e.of).writes.get(key)});
                }
                if (e.kind == 'O' && e.outcome != null && transactions.get(e.of).writes.containsKey(key)) {
                    versions.add(new int[] {e.outcome, transactions.get(e.of).writes.get(key)});
                }
            }
            return versions;
        }

        int read(Transaction t, int key) {
            if (t.state != 0) {
                return -2;
            }
            if (t.writes.containsKey(key)) {
                return t.writes.get(key);
            }
            int g = key / 4;
            Node n = ready(g);
            if (n == null) {
                return -3;
            }
            if (t.epochs.containsKey(g) && !holds(t, g)) {
                t.state = 4;
                return -2;
            }
            for (Transaction other : transactions) {
                if (logHolds(n, other) && other.writes.containsKey(key)) {
                    return -4;
                }
            }
            t.read.add(key);
            t.epochs.putIfAbsent(g, n.epoch);
            List<int[]> versions = versions(n, key);
            return versions.isEmpty() ? 0 : versions.get(versions.size() - 1)[1];
        }

        static int write(Transaction t, int key, int value) {
            if (t.state != 0) {
                return 0;
            }
            t.writes.put(key, value);
            return 1;
        }

        int commit(Transaction t) {
            if (t.state != 0) {
                return -2;
            }
            for (int g : t.groups()) {
                if (ready(g) == null) {
                    return -3;
                }
            }
            for (int g : t.epochs.keySet()) {
                if (!holds(t, g)) {
                    return end(t, 4);
                }
            }
            if (t.writes.isEmpty()) {
                return end(t, 3);
            }
            for (int refusal = -6; refusal >= -7; refusal--) {
                for (int g : t.groups()) {
                    if (cannotWrite(ready(g)) == refusal) {
                        return refusal;
                    }
                }
            }
            for (int key : t.writes.keySet()) {
                for (Transaction other : transactions) {
                    boolean touches = other.read.contains(key) || other.writes.containsKey(key);
                    boolean reader = other.state == 0 && other.read.contains(key) && holds(other, key / 4);
                    if (other != t && touches && logHolds(ready(key / 4), other) || other.number < t.number && reader) {
                        return -4;
                    }
                }
            }
            for (Transaction other : transactions) {
                if (other != t && other.state == 0
                    && t.writes.keySet().stream().anyMatch(k -> other.read.contains(k) && holds(other, k / 4))) {
                    other.state = 4;
                }
            }
            boolean two = t.groups().size() == 2;
            for (int g : t.groups()) {
                writeEntry(ready(g), two ? 'P' : 'C', t.number, null);
            }
            return end(t, two ? 1 : 2);
        }

        int step(Transaction t) {
            switch (t.state) {
                case 1: return stepPreparing(t);
                case 2: return stepCommitting(t);
                case 3:
                case 4:
                    for (int g = 0; g < 2; g++) {
                        Node n = ready(g);
                        if (n != null && has(n.log, 'P', t) && !has(n.log, 'C', t) && !has(n.log, 'O', t)) {
                            writeEntry(n, 'O', t.number, t.state == 3 ? Integer.valueOf(t.stamp) : null);
                        }
                    }
                    return t.state;
                default: return 0;
            }
        }

        int stepPreparing(Transaction t) {
            Node n0 = ready(0);
            Node n1 = ready(1);
            if (n0 == null || n1 == null) {
                return -3;
            }
            if (!has(n0.log, 'P', t) || !has(n1.log, 'P', t)) {
                return end(t, 4);
            }
            if (!has(knownOf(n0), 'P', t) || !has(knownOf(n1), 'P', t)) {
                return 1;
            }
            int written = writeEntry(n0, 'C', t.number, null, stampOf(n0, 'P', t), stampOf(n1, 'P', t));
            return written < 0 ? written : end(t, 2);
        }

        static int stampOf(Node n, char kind, Transaction t) {
            return n.log.stream().filter(e -> e.kind == kind && e.of == t.number).findFirst().get().stamp;
        }

        int stepCommitting(Transaction t) {
            boolean two = t.groups().size() == 2;
            Node n = ready(two ? 0 : t.groups().iterator().next());
            if (n == null) {
                return -3;
            }
            if (!has(n.log, 'C', t)) {
                return end(t, two ? 1 : 4);
            }
            if (has(knownOf(n), 'C', t) && stampOf(n, 'C', t) < earliest(n)) {
                t.stamp = stampOf(n, 'C', t);
                return end(t, 3);
            }
            return 2;
        }

        int stamp(int t) {
            Transaction it = transactions.get(t);
            return it.state == 3 && !it.writes.isEmpty() ? it.stamp : 0;
        }

        int snapshot(Node n, int key, int at) {
            int safe = safe(n.number);
            if (safe == -1 || at > safe) {
                return -4;
            }
            List<int[]> versions = versions(n, key);
            if (versions.size() > 3 && at < versions.get(versions.size() - 3)[0]) {
                return -8;
            }
            int value = 0;
            for (int[] version : versions) {
                if (version[0] <= at) {
                    value = version[1];
                }
            }
            return value;
        }

        int safe(int node) {
            Node n = nodes[node];
            if (n.known == 0) {
                return -1;
            }
            int safe = n.log.get(n.known - 1).stamp;
            for (Entry e : knownOf(n)) {
                if (e.kind == 'P') {
                    Transaction t = transactions.get(e.of);
                    if (!has(knownOf(n), 'C', t) && !has(knownOf(n), 'O', t)) {
                        safe = Math.min(safe, e.stamp - 1);
                    }
                }
            }
            return safe;
        }
    }
}
