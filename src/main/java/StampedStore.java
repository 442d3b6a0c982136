import java.util.Arrays;

/**
 * A database in two groups of three nodes. Each group copies a log that a leader with a lease writes;
 * transactions read under locks and are committed with timestamps, and old states can be read at any node.
 * ../shared/DOC.md tells what each call promises; the words used here are its words.
 */
public final class StampedStore {
    public static final int NONE = -1;
    public static final int OVER = -2;
    public static final int DOWN = -3;
    public static final int WAIT = -4;
    public static final int STALE = -5;
    public static final int FULL = -6;
    public static final int LATE = -7;
    public static final int GONE = -8;

    private static final int GROUPS = 2;
    private static final int NODES_OF_A_GROUP = 3;
    private static final int NODES = GROUPS * NODES_OF_A_GROUP;
    private static final int KEYS_OF_A_GROUP = 4;
    private static final int KEYS = GROUPS * KEYS_OF_A_GROUP;
    private static final int TRANSACTIONS = 16;
    private static final int GREATEST_VALUE = 999;
    private static final int GREATEST_EPS = 10;
    private static final int USUAL_EPS = 5;
    private static final int LONGEST_TICK = 50;
    private static final int LEASE = 40;
    private static final int LOG_ENTRIES = 60;
    private static final int VERSIONS_KEPT = 3;
    private static final int MAJORITY = 2;
    private static final int END_OF_TIME = 2147483647;

    private static final int ACTIVE = 0;
    private static final int PREPARING = 1;
    private static final int COMMITTING = 2;
    private static final int COMMITTED = 3;
    private static final int ABORTED = 4;

    private static final int BEAT = 0;
    private static final int PREPARE = 1;
    private static final int COMMIT = 2;
    private static final int OUTCOME = 3;

    private final Clock clock;
    private final Node[] nodes = new Node[NODES];
    private final Transaction[] transactions = new Transaction[TRANSACTIONS];
    private int begun;

    public StampedStore(int eps) {
        clock = new Clock(eps >= 0 && eps <= GREATEST_EPS ? eps : USUAL_EPS);
        for (int node = 0; node < NODES; node++) {
            nodes[node] = new Node(node, clock);
        }
        for (int t = 0; t < TRANSACTIONS; t++) {
            transactions[t] = new Transaction();
        }
    }

    public int tick(int n) {
        if (n < 1 || n > LONGEST_TICK) {
            return NONE;
        }
        clock.time += n;
        return clock.time;
    }

    public boolean skew(int node, int s) {
        if (!isNode(node) || s < -clock.eps || s > clock.eps) {
            return false;
        }
        nodes[node].skew = s;
        return true;
    }

    public boolean crash(int node) {
        if (!isNode(node) || !nodes[node].up) {
            return false;
        }
        nodes[node].up = false;
        nodes[node].leads = false;
        return true;
    }

    public boolean recover(int node) {
        if (!isNode(node) || nodes[node].up) {
            return false;
        }
        nodes[node].up = true;
        return true;
    }

    public int elect(int node) {
        if (!isNode(node) || !nodes[node].up) {
            return NONE;
        }
        Node asking = nodes[node];
        int epoch = asking.nextOwnEpoch();
        int grants = gatherGrants(asking, epoch);
        // Only a node that granted it to itself has the epoch that it asked for.
        if (asking.epoch != epoch || grants < MAJORITY) {
            return 0;
        }
        asking.leads = true;
        asking.leaseEnd = asking.earliest() + LEASE;
        asking.put(BEAT, NONE, NONE, 0);
        return epoch;
    }

    public int beat(int node) {
        if (!isNode(node) || !nodes[node].up || !nodes[node].leads) {
            return NONE;
        }
        Node leading = nodes[node];
        // The promises and the lease stand even when no BEAT can be written after them.
        if (renewPromises(leading) >= MAJORITY) {
            leading.leaseEnd = Math.max(leading.leaseEnd, leading.earliest() + LEASE);
        }
        if (!leading.isActive()) {
            return LATE;
        }
        return leading.put(BEAT, NONE, NONE, 0);
    }

    public int ship(int from, int to) {
        if (!isNode(from) || !isNode(to) || from == to || groupOfNode(from) != groupOfNode(to)) {
            return NONE;
        }
        Node leading = nodes[from];
        Node other = nodes[to];
        if (!leading.up || !other.up || !leading.leads) {
            return NONE;
        }
        if (other.epoch > leading.epoch) {
            leading.leads = false;
            return STALE;
        }
        other.takeEpoch(leading.epoch);
        other.log.follow(leading.log);
        leading.log.learn(agreedEntries(leading));
        other.log.learn(leading.log.knownSize);
        return other.log.size;
    }

    public int begin() {
        if (begun >= TRANSACTIONS) {
            return NONE;
        }
        begun++;
        return begun - 1;
    }

    public int read(int t, int key) {
        if (!isTransaction(t) || !isKey(key)) {
            return NONE;
        }
        Transaction reader = transactions[t];
        if (reader.state != ACTIVE) {
            return OVER;
        }
        if (reader.writes(key)) {
            return reader.values[key];
        }
        int ready = readyNode(groupOfKey(key));
        if (ready == NONE) {
            return DOWN;
        }
        if (hasLostReads(reader, groupOfKey(key))) {
            reader.state = ABORTED;
            return OVER;
        }
        if (isHeldForWriter(nodes[ready].log, key)) {
            return WAIT;
        }
        reader.noteRead(key, nodes[ready].epoch);
        return valueAt(nodes[ready].log, key, END_OF_TIME);
    }

    public boolean write(int t, int key, int value) {
        if (!isTransaction(t) || !isKey(key) || transactions[t].state != ACTIVE) {
            return false;
        }
        if (value < 0 || value > GREATEST_VALUE) {
            return false;
        }
        transactions[t].values[key] = value;
        return true;
    }

    public int commit(int t) {
        if (!isTransaction(t)) {
            return NONE;
        }
        Transaction writer = transactions[t];
        if (writer.state != ACTIVE) {
            return OVER;
        }
        if (lacksReadyNode(writer)) {
            return DOWN;
        }
        if (hasLostReads(writer, 0) || hasLostReads(writer, 1)) {
            writer.state = ABORTED;
            return ABORTED;
        }
        if (!writer.writesIn(0) && !writer.writesIn(1)) {
            writer.state = COMMITTED;
            return COMMITTED;
        }
        int refusal = refusalOfGroups(writer);
        if (refusal < 0) {
            return refusal;
        }
        if (mustWait(t)) {
            return WAIT;
        }
        abortOtherReaders(writer);
        writeFirstEntries(t);
        return writer.state;
    }

    public boolean abort(int t) {
        if (!isTransaction(t) || transactions[t].state != ACTIVE) {
            return false;
        }
        transactions[t].state = ABORTED;
        return true;
    }

    public int step(int t) {
        if (!isTransaction(t)) {
            return NONE;
        }
        switch (transactions[t].state) {
            case PREPARING:
                return stepPreparing(t);
            case COMMITTING:
                return stepCommitting(t);
            case COMMITTED:
            case ABORTED:
                writeOutcome(t, 0);
                writeOutcome(t, 1);
                return transactions[t].state;
            default:
                return transactions[t].state;
        }
    }

    public int state(int t) {
        return isTransaction(t) ? transactions[t].state : NONE;
    }

    public int stamp(int t) {
        return isTransaction(t) ? transactions[t].stamp : NONE;
    }

    public int snapshot(int node, int key, int time) {
        if (!isNode(node) || !isKey(key) || groupOfKey(key) != groupOfNode(node)) {
            return NONE;
        }
        if (!nodes[node].up || time < 0) {
            return NONE;
        }
        Log log = nodes[node].log;
        // Without a known entry there is no safe time, and NONE is below every time that gets here.
        if (time > log.safeStamp()) {
            return WAIT;
        }
        if (time < oldestKeptStamp(log, key)) {
            return GONE;
        }
        return valueAt(log, key, time);
    }

    public int safe(int node) {
        return isNode(node) ? nodes[node].log.safeStamp() : NONE;
    }

    public int length(int node) {
        return isNode(node) ? nodes[node].log.size : NONE;
    }

    public int known(int node) {
        return isNode(node) ? nodes[node].log.knownSize : NONE;
    }

    public int leader(int group) {
        return group >= 0 && group < GROUPS ? readyNode(group) : NONE;
    }

    private static boolean isNode(int node) {
        return node >= 0 && node < NODES;
    }

    private static boolean isKey(int key) {
        return key >= 0 && key < KEYS;
    }

    private boolean isTransaction(int t) {
        return t >= 0 && t < begun;
    }

    private static int groupOfNode(int node) {
        return node / NODES_OF_A_GROUP;
    }

    private static int groupOfKey(int key) {
        return key / KEYS_OF_A_GROUP;
    }

    private static int firstNodeBeside(Node node) {
        return groupOfNode(node.number) * NODES_OF_A_GROUP;
    }

    private int readyNode(int group) {
        int first = group * NODES_OF_A_GROUP;
        for (int node = first; node < first + NODES_OF_A_GROUP; node++) {
            if (nodes[node].isActive() && nodes[node].log.knowsEpoch(nodes[node].epoch)) {
                return node;
            }
        }
        return NONE;
    }

    private int gatherGrants(Node asking, int epoch) {
        int first = firstNodeBeside(asking);
        int grants = 0;
        for (int node = first; node < first + NODES_OF_A_GROUP; node++) {
            Node asked = nodes[node];
            if (asked.up && asked.wouldGrant(asking, epoch)) {
                asked.takeEpoch(epoch);
                asked.promiseTo(asking);
                grants++;
            }
        }
        return grants;
    }

    private int renewPromises(Node leading) {
        int first = firstNodeBeside(leading);
        int renewed = 0;
        for (int node = first; node < first + NODES_OF_A_GROUP; node++) {
            if (nodes[node].up && nodes[node].epoch == leading.epoch) {
                nodes[node].promiseTo(leading);
                renewed++;
            }
        }
        return renewed;
    }

    /** How many entries reach up to the last one of the leading node's epoch that a second log has too. */
    private int agreedEntries(Node leading) {
        for (int place = leading.log.size - 1; place >= 0; place--) {
            if (leading.log.epochAt(place) == leading.epoch && isInAnotherLog(leading, place)) {
                return place + 1;
            }
        }
        return 0;
    }

    private boolean isInAnotherLog(Node leading, int place) {
        int first = firstNodeBeside(leading);
        for (int node = first; node < first + NODES_OF_A_GROUP; node++) {
            if (node != leading.number && nodes[node].log.epochAt(place) == leading.log.epochAt(place)) {
                return true;
            }
        }
        return false;
    }

    private boolean holdsReads(Transaction reader, int group) {
        int ready = readyNode(group);
        return ready != NONE && nodes[ready].epoch == reader.readEpochs[group];
    }

    private boolean hasLostReads(Transaction reader, int group) {
        return reader.hasReadIn(group) && !holdsReads(reader, group);
    }

    private boolean isHeldForWriter(Log log, int key) {
        for (int t = 0; t < begun; t++) {
            if (transactions[t].writes(key) && log.holdsFor(t)) {
                return true;
            }
        }
        return false;
    }

    private boolean isHeldForOther(Log log, int key, int self) {
        for (int t = 0; t < begun; t++) {
            Transaction other = transactions[t];
            if (t != self && (other.reads[key] || other.writes(key)) && log.holdsFor(t)) {
                return true;
            }
        }
        return false;
    }

    private boolean holdsReadsAgainst(Transaction reader, Transaction writer) {
        if (reader == writer || reader.state != ACTIVE) {
            return false;
        }
        for (int key = 0; key < KEYS; key++) {
            if (writer.writes(key) && reader.reads[key] && holdsReads(reader, groupOfKey(key))) {
                return true;
            }
        }
        return false;
    }

    private boolean lacksReadyNode(Transaction writer) {
        for (int group = 0; group < GROUPS; group++) {
            if (writer.usesGroup(group) && readyNode(group) == NONE) {
                return true;
            }
        }
        return false;
    }

    /** FULL or LATE when a group's ready node can write nothing, otherwise 0; FULL in either group comes first. */
    private int refusalOfGroups(Transaction writer) {
        int refusal = 0;
        for (int group = 0; group < GROUPS; group++) {
            int ready = readyNode(group);
            if (!writer.usesGroup(group) || ready == NONE) {
                continue;
            }
            int here = nodes[ready].refusalOf(nodes[ready].nextStamp());
            if (here == FULL) {
                return FULL;
            }
            if (here == LATE) {
                refusal = LATE;
            }
        }
        return refusal;
    }

    private boolean mustWait(int t) {
        Transaction writer = transactions[t];
        for (int key = 0; key < KEYS; key++) {
            int ready = readyNode(groupOfKey(key));
            if (writer.writes(key) && ready != NONE && isHeldForOther(nodes[ready].log, key, t)) {
                return true;
            }
        }
        for (int older = 0; older < t; older++) {
            if (holdsReadsAgainst(transactions[older], writer)) {
                return true;
            }
        }
        return false;
    }

    private void abortOtherReaders(Transaction writer) {
        for (int t = 0; t < begun; t++) {
            if (holdsReadsAgainst(transactions[t], writer)) {
                transactions[t].state = ABORTED;
            }
        }
    }

    private void writeFirstEntries(int t) {
        Transaction writer = transactions[t];
        int kind = writer.usesBothGroups() ? PREPARE : COMMIT;
        for (int group = 0; group < GROUPS; group++) {
            int ready = readyNode(group);
            if (writer.usesGroup(group) && ready != NONE) {
                nodes[ready].put(kind, t, NONE, 0);
            }
        }
        writer.state = kind == PREPARE ? PREPARING : COMMITTING;
    }

    private int stepPreparing(int t) {
        int ready = readyNode(0);
        int readyBeside = readyNode(1);
        if (ready == NONE || readyBeside == NONE) {
            return DOWN;
        }
        Log log = nodes[ready].log;
        Log logBeside = nodes[readyBeside].log;
        if (!log.has(PREPARE, t) || !logBeside.has(PREPARE, t)) {
            transactions[t].state = ABORTED;
            return ABORTED;
        }
        if (!log.knows(PREPARE, t) || !logBeside.knows(PREPARE, t)) {
            return PREPARING;
        }
        int least = Math.max(log.stampOf(PREPARE, t), logBeside.stampOf(PREPARE, t));
        int written = nodes[ready].put(COMMIT, t, NONE, least);
        if (written < 0) {
            return written;
        }
        transactions[t].state = COMMITTING;
        return COMMITTING;
    }

    private int stepCommitting(int t) {
        Transaction writer = transactions[t];
        int ready = readyNode(writer.usesGroup(0) ? 0 : 1);
        if (ready == NONE) {
            return DOWN;
        }
        Log log = nodes[ready].log;
        if (!log.has(COMMIT, t)) {
            writer.state = writer.usesBothGroups() ? PREPARING : ABORTED;
        } else if (log.knows(COMMIT, t) && log.stampOf(COMMIT, t) < nodes[ready].earliest()) {
            writer.state = COMMITTED;
            writer.stamp = log.stampOf(COMMIT, t);
        }
        return writer.state;
    }

    private void writeOutcome(int t, int group) {
        int ready = readyNode(group);
        if (ready == NONE) {
            return;
        }
        Log log = nodes[ready].log;
        if (log.has(PREPARE, t) && !log.has(COMMIT, t) && !log.has(OUTCOME, t)) {
            Transaction ended = transactions[t];
            nodes[ready].put(OUTCOME, t, ended.state == COMMITTED ? ended.stamp : NONE, 0);
        }
    }

    /** The stamp of the version of a key that a log's entry is, NONE when it is none. */
    private int versionStamp(Log log, int place, int key) {
        int owner = log.owners[place];
        if (!isTransaction(owner) || !transactions[owner].writes(key)) {
            return NONE;
        }
        if (log.kinds[place] == COMMIT) {
            return log.stamps[place];
        }
        return log.kinds[place] == OUTCOME ? log.outcomes[place] : NONE;
    }

    private int valueAt(Log log, int key, int time) {
        for (int place = log.knownSize - 1; place >= 0; place--) {
            int stamp = versionStamp(log, place, key);
            if (stamp != NONE && stamp <= time) {
                return transactions[log.owners[place]].values[key];
            }
        }
        return 0;
    }

    /** The stamp of a key's last version but two, if there are versions before it, otherwise 0. */
    private int oldestKeptStamp(Log log, int key) {
        int versions = 0;
        int oldest = 0;
        for (int place = log.knownSize - 1; place >= 0; place--) {
            int stamp = versionStamp(log, place, key);
            if (stamp == NONE) {
                continue;
            }
            versions++;
            if (versions == VERSIONS_KEPT) {
                oldest = stamp;
            }
        }
        return versions > VERSIONS_KEPT ? oldest : 0;
    }

    /** The true time, which a node knows only up to eps. */
    private static final class Clock {
        final int eps;
        int time;

        Clock(int eps) {
            this.eps = eps;
        }
    }

    private static final class Node {
        final int number;
        final Clock clock;
        final Log log = new Log();
        boolean up = true;
        boolean leads;
        int skew;
        int epoch;
        int leaseEnd;
        int promisedNode = NONE;
        int promisedTime;

        Node(int number, Clock clock) {
            this.number = number;
            this.clock = clock;
        }

        int earliest() {
            return clock.time + skew - clock.eps;
        }

        int latest() {
            return clock.time + skew + clock.eps;
        }

        boolean isActive() {
            return leads && latest() < leaseEnd;
        }

        /** Epochs are dealt out by their remainders, so that two nodes of a group never ask for the same one. */
        int nextOwnEpoch() {
            int distance = Math.floorMod(number - epoch, NODES_OF_A_GROUP);
            return epoch + (distance == 0 ? NODES_OF_A_GROUP : distance);
        }

        void takeEpoch(int newEpoch) {
            if (newEpoch > epoch) {
                epoch = newEpoch;
                leads = false;
            }
        }

        boolean wouldGrant(Node asking, int asked) {
            boolean free = promisedNode == NONE || promisedNode == asking.number || earliest() > promisedTime;
            return epoch < asked && free && !asking.log.isBehind(log);
        }

        /** A promise never ends sooner than the one before: somebody may count on that one still. */
        void promiseTo(Node leading) {
            promisedNode = leading.number;
            promisedTime = Math.max(promisedTime, latest() + LEASE);
        }

        int nextStamp() {
            return Math.max(latest(), log.greatestStamp() + 1);
        }

        int refusalOf(int stamp) {
            if (log.isFull()) {
                return FULL;
            }
            return stamp < leaseEnd ? 0 : LATE;
        }

        /** Writes an entry with a stamp not below least: answers the stamp, or FULL or LATE. */
        int put(int kind, int owner, int outcome, int least) {
            int stamp = Math.max(nextStamp(), least);
            int refusal = refusalOf(stamp);
            if (refusal < 0) {
                return refusal;
            }
            log.append(epoch, stamp, kind, owner, outcome);
            return stamp;
        }
    }

    private static final class Log {
        final int[] epochs = new int[LOG_ENTRIES];
        final int[] stamps = new int[LOG_ENTRIES];
        final int[] kinds = new int[LOG_ENTRIES];
        final int[] owners = new int[LOG_ENTRIES];
        final int[] outcomes = new int[LOG_ENTRIES];
        int size;
        int knownSize;

        boolean isFull() {
            return size >= LOG_ENTRIES;
        }

        void append(int epoch, int stamp, int kind, int owner, int outcome) {
            if (isFull()) {
                return;
            }
            epochs[size] = epoch;
            stamps[size] = stamp;
            kinds[size] = kind;
            owners[size] = owner;
            outcomes[size] = outcome;
            size++;
        }

        int epochAt(int place) {
            return place >= 0 && place < size ? epochs[place] : NONE;
        }

        int lastEpoch() {
            return size > 0 ? epochs[size - 1] : 0;
        }

        boolean isBehind(Log other) {
            if (lastEpoch() != other.lastEpoch()) {
                return lastEpoch() < other.lastEpoch();
            }
            return size < other.size;
        }

        boolean knowsEpoch(int epoch) {
            for (int place = 0; place < knownSize; place++) {
                if (epochs[place] == epoch) {
                    return true;
                }
            }
            return false;
        }

        /** The greatest stamp in the log, those in OUTCOMEs too; NONE, which is one below the least stamp, without any. */
        int greatestStamp() {
            int greatest = NONE;
            for (int place = 0; place < size; place++) {
                greatest = Math.max(greatest, Math.max(stamps[place], outcomes[place]));
            }
            return greatest;
        }

        int find(int kind, int owner) {
            for (int place = 0; place < size; place++) {
                if (kinds[place] == kind && owners[place] == owner) {
                    return place;
                }
            }
            return NONE;
        }

        boolean has(int kind, int owner) {
            return find(kind, owner) != NONE;
        }

        boolean knows(int kind, int owner) {
            int place = find(kind, owner);
            return place != NONE && place < knownSize;
        }

        int stampOf(int kind, int owner) {
            int place = find(kind, owner);
            return place == NONE ? NONE : stamps[place];
        }

        boolean knowsEndOf(int owner) {
            return knows(COMMIT, owner) || knows(OUTCOME, owner);
        }

        boolean holdsFor(int owner) {
            return has(PREPARE, owner) && !knowsEndOf(owner)
                || has(COMMIT, owner) && !knows(COMMIT, owner);
        }

        int safeStamp() {
            if (knownSize == 0) {
                return NONE;
            }
            int safe = stamps[knownSize - 1];
            for (int place = 0; place < knownSize; place++) {
                if (kinds[place] == PREPARE && !knowsEndOf(owners[place])) {
                    safe = Math.min(safe, stamps[place] - 1);
                }
            }
            return safe;
        }

        int sameEntries(Log other) {
            int same = 0;
            while (same < size && epochs[same] == other.epochAt(same)) {
                same++;
            }
            return same;
        }

        void follow(Log leading) {
            size = sameEntries(leading);
            int next = size;
            if (next < leading.size) {
                append(leading.epochs[next], leading.stamps[next], leading.kinds[next],
                    leading.owners[next], leading.outcomes[next]);
            }
        }

        void learn(int entries) {
            knownSize = Math.max(knownSize, Math.min(entries, size));
        }
    }

    private static final class Transaction {
        final boolean[] reads = new boolean[KEYS];
        final int[] values = new int[KEYS];
        final int[] readEpochs = new int[GROUPS];
        int state = ACTIVE;
        int stamp;

        Transaction() {
            Arrays.fill(values, NONE);
            Arrays.fill(readEpochs, NONE);
        }

        boolean writes(int key) {
            return values[key] != NONE;
        }

        boolean writesIn(int group) {
            int first = group * KEYS_OF_A_GROUP;
            for (int key = first; key < first + KEYS_OF_A_GROUP; key++) {
                if (writes(key)) {
                    return true;
                }
            }
            return false;
        }

        boolean hasReadIn(int group) {
            return readEpochs[group] != NONE;
        }

        boolean usesGroup(int group) {
            return hasReadIn(group) || writesIn(group);
        }

        boolean usesBothGroups() {
            return usesGroup(0) && usesGroup(1);
        }

        void noteRead(int key, int epoch) {
            reads[key] = true;
            if (!hasReadIn(groupOfKey(key))) {
                readEpochs[groupOfKey(key)] = epoch;
            }
        }
    }
}
