/**
 * A store whose transactions read from snapshots: versions by commit numbers, three policies for
 * commits, dependencies between commits and the rings that they form, constraints over sums of
 * keys, and schedules that are read from a text.
 */
public final class SnapshotRings {
    public static final int NO_SUCH = -20001;
    public static final int BAD_VALUE = -20002;
    public static final int NOT_POSSIBLE = -20003;
    public static final int LIMIT = -20004;
    public static final int BAD_TEXT = -20005;
    public static final int NONE = -20006;

    private static final int KEYS = 12;
    private static final int ALL_KEYS = (1 << KEYS) - 1;
    private static final int HIGHEST_VALUE = 999;
    private static final int SLOTS = 8;
    private static final int CONSTRAINTS = 3;
    private static final int HIGHEST_LEAST_SUM = 9999;
    private static final int HIGHEST_POLICY = 2;
    private static final int POLICY_OF_RINGS = 1;
    private static final int POLICY_OF_PIVOTS = 2;
    private static final int REASON_OVERWRITES = 1;
    private static final int REASON_RING = 2;
    private static final int REASON_PIVOT = 3;
    private static final int REASONS = 3;
    private static final int SAME_WRITE = 1;
    private static final int READ_BY = 2;
    private static final int OVERWRITTEN_BY = 4;
    // A power of two, so that a mask finds the row of a commit number.
    private static final int KEPT = 16;
    private static final int ROWS = SLOTS + KEPT;
    private static final int NODES = KEPT + 1;
    private static final int SAVED = 6;
    private static final int LONGEST_TEXT = 80;
    private static final int LOWEST_CODE = 33;
    private static final int HIGHEST_CODE = 126;
    private static final int NO_ERROR = 0;
    private static final long FIRST_HASH = 368L;

    private final State state;
    private final State forecast;
    private final History history;
    private final Graph graph;
    private final Schedule schedule;

    public SnapshotRings() {
        state = new State();
        forecast = new State();
        history = new History();
        graph = new Graph();
        schedule = new Schedule();
    }

    // ---- settings

    public int setPolicy(int policy) {
        if (policy < 0 || policy > HIGHEST_POLICY) {
            return BAD_VALUE;
        }
        history.push(state);
        int previous = state.policy;
        state.policy = policy;
        return previous;
    }

    public int setConstraint(int constraint, int keys, int least) {
        if (!isConstraint(constraint)) {
            return NO_SUCH;
        }
        if (keys < 0 || keys > ALL_KEYS || least < -HIGHEST_LEAST_SUM || least > HIGHEST_LEAST_SUM) {
            return BAD_VALUE;
        }
        history.push(state);
        int previous = state.leastSums[constraint];
        state.summedKeys[constraint] = keys;
        state.leastSums[constraint] = least;
        return previous;
    }

    // ---- transactions

    public int begin(int slot) {
        int error = errorOfBegin(slot);
        if (error != NO_ERROR) {
            return error;
        }
        history.push(state);
        return state.start(slot);
    }

    public int read(int slot, int key) {
        int error = errorOfRead(slot, key);
        if (error != NO_ERROR) {
            return error;
        }
        history.push(state);
        return state.readKey(slot, key);
    }

    public int write(int slot, int key, int value) {
        int error = errorOfWrite(slot, key, value);
        if (error != NO_ERROR) {
            return error;
        }
        history.push(state);
        return state.writeKey(slot, key, value);
    }

    public int commit(int slot) {
        int error = errorOfSlot(slot);
        if (error != NO_ERROR) {
            return error;
        }
        history.push(state);
        return finish(state, slot);
    }

    public int abort(int slot) {
        int error = errorOfSlot(slot);
        if (error != NO_ERROR) {
            return error;
        }
        history.push(state);
        return state.giveUp(slot);
    }

    // ---- asking

    public int count(int what) {
        switch (what) {
            case 0:
                return state.commits;
            case 1:
                return Integer.bitCount(state.openSlots);
            case 2:
                return state.policy;
            case 3:
                return state.keptCommits();
            case 4:
                return state.refusals[REASON_OVERWRITES];
            case 5:
                return state.refusals[REASON_RING];
            case 6:
                return state.refusals[REASON_PIVOT];
            case 7:
                return state.aborts;
            default:
                return BAD_VALUE;
        }
    }

    public int value(int key) {
        return isKey(key) ? state.values[key] : NO_SUCH;
    }

    public int version(int key) {
        return isKey(key) ? state.versions[key] : NO_SUCH;
    }

    public int of(int slot, int what) {
        int error = errorOfSlot(slot);
        if (error != NO_ERROR) {
            return error;
        }
        if (what == 3) {
            return reasonToRefuse(state, slot, state.policy);
        }
        return state.partOfRow(slot, what);
    }

    public int ofCommit(int commit, int what) {
        if (!state.isKept(commit)) {
            return NO_SUCH;
        }
        return state.partOfRow(state.rowOfCommit(commit), what);
    }

    public int dependency(int a, int b) {
        if (!state.isKept(a) || !state.isKept(b)) {
            return NO_SUCH;
        }
        if (a == b) {
            return BAD_VALUE;
        }
        return state.dependencySum(state.rowOfCommit(a), a, state.rowOfCommit(b), b);
    }

    public int ringOf(int slot, int index) {
        int error = errorOfSlot(slot);
        if (error != NO_ERROR) {
            return error;
        }
        if (index < 1) {
            return BAD_VALUE;
        }
        graph.load(state);
        graph.join(state, slot);
        graph.findRing();
        return graph.toldAt(index - 1);
    }

    public int inRings() {
        graph.load(state);
        return graph.countNodesInRings();
    }

    public int orderAt(int index) {
        if (index < 0) {
            return BAD_VALUE;
        }
        graph.load(state);
        graph.findOrder();
        return graph.toldAt(index);
    }

    public int skews() {
        graph.load(state);
        return graph.countSkewPairs();
    }

    public int holds(int constraint) {
        if (!isConstraint(constraint)) {
            return NO_SUCH;
        }
        return state.constraintIsMet(state.values, 0, constraint) ? 1 : 0;
    }

    public int holdsFor(int slot, int constraint) {
        int error = errorOfSlot(slot);
        if (error != NO_ERROR) {
            return error;
        }
        if (!isConstraint(constraint)) {
            return NO_SUCH;
        }
        return state.constraintIsMet(state.seenValues, slot * KEYS, constraint) ? 1 : 0;
    }

    // ---- forecasts; they change nothing

    public int ifAllCommitted() {
        forecast.copyFrom(state);
        for (int slot = 0; slot < SLOTS; slot++) {
            if (forecast.isOpen(slot)) {
                finish(forecast, slot);
            }
        }
        int held = 0;
        for (int constraint = 0; constraint < CONSTRAINTS; constraint++) {
            if (forecast.constraintIsMet(forecast.values, 0, constraint)) {
                held++;
            }
        }
        return held;
    }

    public int refusedBy(int slot) {
        int error = errorOfSlot(slot);
        if (error != NO_ERROR) {
            return error;
        }
        for (int policy = 0; policy <= HIGHEST_POLICY; policy++) {
            if (reasonToRefuse(state, slot, policy) != 0) {
                return policy;
            }
        }
        return NONE;
    }

    // ---- text

    public int type(int code) {
        if (code < LOWEST_CODE || code > HIGHEST_CODE) {
            return BAD_VALUE;
        }
        if (schedule.length >= LONGEST_TEXT) {
            return LIMIT;
        }
        schedule.append((char) code);
        return schedule.length;
    }

    public int clearText() {
        int previous = schedule.length;
        schedule.length = 0;
        return previous;
    }

    public int syntaxError() {
        return schedule.firstError();
    }

    public int carryOut() {
        if (schedule.firstError() != NONE) {
            return BAD_TEXT;
        }
        history.push(state);
        int at = 0;
        int steps = 0;
        while (steps < LONGEST_TEXT && at < schedule.length && carryOutStep(at)) {
            steps++;
            at = schedule.nextStep(at);
        }
        schedule.length = 0;
        return steps;
    }

    // ---- undo

    public int undo() {
        if (history.saved == 0) {
            return NOT_POSSIBLE;
        }
        history.popInto(state);
        return history.saved;
    }

    public long digest() {
        long hash = FIRST_HASH;
        for (int what = 0; what < 8; what++) {
            hash = mixed(hash, count(what));
        }
        for (int key = 0; key < KEYS; key++) {
            hash = mixed(hash, state.values[key]);
            hash = mixed(hash, state.versions[key]);
        }
        hash = withOpenTransactions(hash);
        hash = withKeptCommits(hash);
        hash = withGraph(hash);
        for (int constraint = 0; constraint < CONSTRAINTS; constraint++) {
            hash = mixed(hash, holds(constraint));
        }
        return hash;
    }

    // ---- parts of the methods above

    private static boolean isKey(int key) {
        return key >= 0 && key < KEYS;
    }

    private static boolean isSlot(int slot) {
        return slot >= 0 && slot < SLOTS;
    }

    private static boolean isConstraint(int constraint) {
        return constraint >= 0 && constraint < CONSTRAINTS;
    }

    private static boolean hasBit(int mask, int index) {
        return (mask >> index & 1) == 1;
    }

    private static long mixed(long hash, long number) {
        return 31L * hash + number;
    }

    private int errorOfBegin(int slot) {
        if (!isSlot(slot)) {
            return NO_SUCH;
        }
        return state.isOpen(slot) ? NOT_POSSIBLE : NO_ERROR;
    }

    private int errorOfSlot(int slot) {
        return isSlot(slot) && state.isOpen(slot) ? NO_ERROR : NO_SUCH;
    }

    private int errorOfRead(int slot, int key) {
        return isKey(key) ? errorOfSlot(slot) : NO_SUCH;
    }

    private int errorOfWrite(int slot, int key, int value) {
        int error = errorOfRead(slot, key);
        if (error != NO_ERROR) {
            return error;
        }
        return value < -HIGHEST_VALUE || value > HIGHEST_VALUE ? BAD_VALUE : NO_ERROR;
    }

    /** The reason by which the open transaction would be refused now, 0 if by none. */
    private int reasonToRefuse(State at, int slot, int policy) {
        if (at.overwritesNewer(slot)) {
            return REASON_OVERWRITES;
        }
        if (policy < POLICY_OF_RINGS) {
            return 0;
        }
        graph.load(at);
        graph.join(at, slot);
        graph.findRing();
        if (graph.told > 0) {
            return REASON_RING;
        }
        if (policy < POLICY_OF_PIVOTS) {
            return 0;
        }
        return graph.hasPivot() ? REASON_PIVOT : 0;
    }

    /** Commits the open transaction or refuses it; answers as commit() does. */
    private int finish(State at, int slot) {
        int reason = reasonToRefuse(at, slot, at.policy);
        if (reason != 0) {
            at.refuse(slot, reason);
            return -reason;
        }
        return at.keepCommit(slot);
    }

    /** Carries out the step that begins at the index; false if its method would return an error. */
    private boolean carryOutStep(int at) {
        char letter = schedule.signAt(at);
        int slot = schedule.slotOfStep(at);
        if (letter == 'b') {
            if (errorOfBegin(slot) != NO_ERROR) {
                return false;
            }
            state.start(slot);
            return true;
        }
        if (letter == 'r' || letter == 'w') {
            return carryOutAccess(at, letter, slot);
        }
        if (errorOfSlot(slot) != NO_ERROR) {
            return false;
        }
        if (letter == 'c') {
            finish(state, slot);
        } else {
            state.giveUp(slot);
        }
        return true;
    }

    private boolean carryOutAccess(int at, char letter, int slot) {
        int key = schedule.keyOfStep(at);
        if (letter == 'r') {
            if (errorOfRead(slot, key) != NO_ERROR) {
                return false;
            }
            state.readKey(slot, key);
            return true;
        }
        int value = schedule.valueOfStep(at);
        if (errorOfWrite(slot, key, value) != NO_ERROR) {
            return false;
        }
        state.writeKey(slot, key, value);
        return true;
    }

    private long withOpenTransactions(long start) {
        long hash = start;
        for (int slot = 0; slot < SLOTS; slot++) {
            if (!state.isOpen(slot)) {
                continue;
            }
            hash = mixed(hash, slot);
            for (int what = 0; what < 4; what++) {
                hash = mixed(hash, of(slot, what));
            }
            for (int constraint = 0; constraint < CONSTRAINTS; constraint++) {
                hash = mixed(hash, holdsFor(slot, constraint));
            }
        }
        return hash;
    }

    private long withKeptCommits(long start) {
        long hash = start;
        int kept = state.keptCommits();
        int first = state.commits - kept + 1;
        for (int i = 0; i < kept; i++) {
            hash = mixed(hash, first + i);
            for (int what = 0; what < 3; what++) {
                hash = mixed(hash, ofCommit(first + i, what));
            }
        }
        return hash;
    }

    private long withGraph(long start) {
        long hash = start;
        graph.load(state);
        for (int a = 0; a < graph.nodes; a++) {
            for (int b = a + 1; b < graph.nodes; b++) {
                hash = mixed(hash, graph.sums[a * NODES + b]);
                hash = mixed(hash, graph.sums[b * NODES + a]);
            }
        }
        hash = mixed(hash, graph.countNodesInRings());
        graph.findOrder();
        for (int index = 0; index < KEPT; index++) {
            hash = mixed(hash, graph.toldAt(index));
        }
        return hash;
    }

    /** All that undo() restores. */
    private static final class State {
        int policy;
        int commits;
        int aborts;
        int openSlots;
        final int[] refusals = new int[REASONS + 1];
        final int[] summedKeys = new int[CONSTRAINTS];
        final int[] leastSums = new int[CONSTRAINTS];
        final int[] values = new int[KEYS];
        final int[] versions = new int[KEYS];
        // Rows 0 to 7 are the slots, and the rows behind them the kept commits, so that
        // dependencies are found in the same way for both.
        final int[] snapshots = new int[ROWS];
        final int[] readKeys = new int[ROWS];
        final int[] writtenKeys = new int[ROWS];
        // The versions as of the snapshot, KEYS numbers a row. They are copied when a transaction
        // begins, so that no older versions need be held.
        final int[] seenVersions = new int[ROWS * KEYS];
        // The values as of the snapshot with what the transaction wrote, KEYS numbers a slot.
        final int[] seenValues = new int[SLOTS * KEYS];

        void copyFrom(State other) {
            policy = other.policy;
            commits = other.commits;
            aborts = other.aborts;
            openSlots = other.openSlots;
            System.arraycopy(other.refusals, 0, refusals, 0, REASONS + 1);
            System.arraycopy(other.summedKeys, 0, summedKeys, 0, CONSTRAINTS);
            System.arraycopy(other.leastSums, 0, leastSums, 0, CONSTRAINTS);
            System.arraycopy(other.values, 0, values, 0, KEYS);
            System.arraycopy(other.versions, 0, versions, 0, KEYS);
            System.arraycopy(other.snapshots, 0, snapshots, 0, ROWS);
            System.arraycopy(other.readKeys, 0, readKeys, 0, ROWS);
            System.arraycopy(other.writtenKeys, 0, writtenKeys, 0, ROWS);
            System.arraycopy(other.seenVersions, 0, seenVersions, 0, ROWS * KEYS);
            System.arraycopy(other.seenValues, 0, seenValues, 0, SLOTS * KEYS);
        }

        boolean isOpen(int slot) {
            return hasBit(openSlots, slot);
        }

        int start(int slot) {
            openSlots |= 1 << slot;
            snapshots[slot] = commits;
            readKeys[slot] = 0;
            writtenKeys[slot] = 0;
            System.arraycopy(versions, 0, seenVersions, slot * KEYS, KEYS);
            System.arraycopy(values, 0, seenValues, slot * KEYS, KEYS);
            return commits;
        }

        int readKey(int slot, int key) {
            // To read what it wrote itself is no read of a version.
            if (!hasBit(writtenKeys[slot], key)) {
                readKeys[slot] |= 1 << key;
            }
            return seenValues[slot * KEYS + key];
        }

        int writeKey(int slot, int key, int value) {
            writtenKeys[slot] |= 1 << key;
            seenValues[slot * KEYS + key] = value;
            return Integer.bitCount(writtenKeys[slot]);
        }

        int giveUp(int slot) {
            free(slot);
            aborts++;
            return Integer.bitCount(writtenKeys[slot]);
        }

        void refuse(int slot, int reason) {
            free(slot);
            refusals[reason]++;
        }

        int keepCommit(int slot) {
            free(slot);
            commits++;
            int row = rowOfCommit(commits);
            snapshots[row] = snapshots[slot];
            readKeys[row] = readKeys[slot];
            writtenKeys[row] = writtenKeys[slot];
            System.arraycopy(seenVersions, slot * KEYS, seenVersions, row * KEYS, KEYS);
            for (int key = 0; key < KEYS; key++) {
                if (hasBit(writtenKeys[slot], key)) {
                    values[key] = seenValues[slot * KEYS + key];
                    versions[key] = commits;
                }
            }
            return commits;
        }

        private void free(int slot) {
            openSlots &= ~(1 << slot);
        }

        int keptCommits() {
            return Math.min(commits, KEPT);
        }

        boolean isKept(int number) {
            return number >= 1 && number <= commits && number > commits - KEPT;
        }

        int rowOfCommit(int number) {
            return SLOTS + (number - 1 & KEPT - 1);
        }

        int partOfRow(int row, int what) {
            switch (what) {
                case 0:
                    return snapshots[row];
                case 1:
                    return readKeys[row];
                case 2:
                    return writtenKeys[row];
                default:
                    return BAD_VALUE;
            }
        }

        boolean overwritesNewer(int slot) {
            for (int key = 0; key < KEYS; key++) {
                if (hasBit(writtenKeys[slot], key) && versions[key] > snapshots[slot]) {
                    return true;
                }
            }
            return false;
        }

        /** Whether the constraint holds with the KEYS values that begin at the index. */
        boolean constraintIsMet(int[] numbers, int from, int constraint) {
            int sum = 0;
            for (int key = 0; key < KEYS; key++) {
                if (hasBit(summedKeys[constraint], key)) {
                    sum += numbers[from + key];
                }
            }
            return sum >= leastSums[constraint];
        }

        /** The dependency of one commit on another, each told by its row and its number. */
        int dependencySum(int rowA, int a, int rowB, int b) {
            int sum = a < b && (writtenKeys[rowA] & writtenKeys[rowB]) != 0 ? SAME_WRITE : 0;
            int readOfA = writtenKeys[rowA] & readKeys[rowB];
            int missedByA = readKeys[rowA] & writtenKeys[rowB];
            if ((readOfA | missedByA) == 0) {
                return sum;
            }
            for (int key = 0; key < KEYS; key++) {
                int bit = 1 << key;
                if ((readOfA & bit) != 0 && seenVersions[rowB * KEYS + key] == a) {
                    sum |= READ_BY;
                }
                if ((missedByA & bit) != 0 && seenVersions[rowA * KEYS + key] < b) {
                    sum |= OVERWRITTEN_BY;
                }
            }
            return sum;
        }
    }

    /** The saved states. They are made once and used in turn. */
    private static final class History {
        final State[] states = new State[SAVED];
        int saved;
        int next;

        History() {
            for (int i = 0; i < SAVED; i++) {
                states[i] = new State();
            }
        }

        void push(State state) {
            states[next].copyFrom(state);
            next = (next + 1) % SAVED;
            saved = Math.min(saved + 1, SAVED);
        }

        void popInto(State state) {
            next = (next + SAVED - 1) % SAVED;
            saved--;
            state.copyFrom(states[next]);
        }
    }

    /**
     * The dependencies between the kept commits, which are its nodes by ascending numbers, and one
     * open transaction that can join them as the last node.
     */
    private static final class Graph {
        private static final int FAR = NODES;

        int nodes;
        final int[] rows = new int[NODES];
        final int[] numbers = new int[NODES];
        final int[] sums = new int[NODES * NODES];
        // Bit masks of nodes, for each node: those that must come behind it, those on which it
        // has a dependency with 4, and those that can be come to from it.
        final int[] behind = new int[NODES];
        final int[] overwriters = new int[NODES];
        final int[] reached = new int[NODES];
        // The steps from each node to the transaction, FAR if it does not lead there.
        final int[] steps = new int[NODES];
        // The commit numbers of the ring or order that was found last.
        final int[] toldNumbers = new int[NODES];
        int told;

        void load(State state) {
            nodes = state.keptCommits();
            int first = state.commits - nodes + 1;
            for (int i = 0; i < nodes; i++) {
                setNode(i, state.rowOfCommit(first + i), first + i);
            }
            for (int a = 0; a < nodes; a++) {
                for (int b = 0; b < nodes; b++) {
                    if (a != b) {
                        link(state, a, b);
                    }
                }
            }
        }

        void join(State state, int slot) {
            if (nodes >= NODES) {
                return;
            }
            int last = nodes;
            nodes++;
            setNode(last, slot, state.commits + 1);
            for (int i = 0; i < last; i++) {
                link(state, i, last);
                link(state, last, i);
            }
        }

        private void setNode(int node, int row, int number) {
            rows[node] = row;
            numbers[node] = number;
            behind[node] = 0;
            overwriters[node] = 0;
        }

        private void link(State state, int a, int b) {
            int sum = state.dependencySum(rows[a], numbers[a], rows[b], numbers[b]);
            sums[a * NODES + b] = sum;
            if (sum != 0) {
                behind[a] |= 1 << b;
            }
            if ((sum & OVERWRITTEN_BY) != 0) {
                overwriters[a] |= 1 << b;
            }
        }

        int toldAt(int index) {
            return index >= 0 && index < told ? toldNumbers[index] : NONE;
        }

        private void tell(int node) {
            toldNumbers[told] = numbers[node];
            told++;
        }

        /** Tells the commits behind the transaction in its ring, none if it has no ring. */
        void findRing() {
            told = 0;
            int last = nodes - 1;
            if (last < 0) {
                return;
            }
            countSteps(last);
            int nearest = FAR;
            for (int i = 0; i < last; i++) {
                if (hasBit(behind[last], i)) {
                    nearest = Math.min(nearest, steps[i]);
                }
            }
            if (nearest == FAR) {
                return;
            }
            int at = last;
            for (int left = nearest; left > 0; left--) {
                at = lowestBehind(at, left);
                tell(at);
            }
        }

        private void countSteps(int last) {
            for (int i = 0; i < nodes; i++) {
                steps[i] = FAR;
            }
            steps[last] = 0;
            int latest = 1 << last;
            for (int distance = 1; distance < nodes; distance++) {
                int next = 0;
                for (int i = 0; i < nodes; i++) {
                    if (steps[i] == FAR && (behind[i] & latest) != 0) {
                        steps[i] = distance;
                        next |= 1 << i;
                    }
                }
                latest = next;
            }
        }

        /** The lowest node behind this one from which so many steps are left; itself if none. */
        private int lowestBehind(int node, int left) {
            for (int i = 0; i < nodes; i++) {
                if (hasBit(behind[node], i) && steps[i] == left) {
                    return i;
                }
            }
            return node;
        }

        /** Whether the transaction, which is the last node, is one of three around a pivot. */
        boolean hasPivot() {
            int last = nodes - 1;
            if (last < 0) {
                return false;
            }
            int overwriting = 0;
            int overwritten = 0;
            for (int i = 0; i < nodes; i++) {
                overwriting |= overwriters[i];
                if (overwriters[i] != 0) {
                    overwritten |= 1 << i;
                }
            }
            int pivots = overwriting & overwritten;
            if (hasBit(pivots, last) || (overwriters[last] & pivots) != 0) {
                return true;
            }
            for (int i = 0; i < last; i++) {
                if (hasBit(pivots, i) && hasBit(overwriters[i], last)) {
                    return true;
                }
            }
            return false;
        }

        int countNodesInRings() {
            for (int i = 0; i < nodes; i++) {
                reached[i] = behind[i];
            }
            for (int through = 0; through < nodes; through++) {
                for (int i = 0; i < nodes; i++) {
                    if (hasBit(reached[i], through)) {
                        reached[i] |= reached[through];
                    }
                }
            }
            int count = 0;
            for (int i = 0; i < nodes; i++) {
                if (hasBit(reached[i], i)) {
                    count++;
                }
            }
            return count;
        }

        /** Tells the order of all nodes, nothing if there is none. */
        void findOrder() {
            told = 0;
            int placed = 0;
            for (int place = 0; place < nodes; place++) {
                int node = lowestPossible(placed);
                if (node < 0) {
                    told = 0;
                    return;
                }
                tell(node);
                placed |= 1 << node;
            }
        }

        private int lowestPossible(int placed) {
            int waiting = placed;
            for (int i = 0; i < nodes; i++) {
                if (!hasBit(placed, i)) {
                    waiting |= behind[i];
                }
            }
            for (int i = 0; i < nodes; i++) {
                if (!hasBit(waiting, i)) {
                    return i;
                }
            }
            return -1;
        }

        int countSkewPairs() {
            int pairs = 0;
            for (int a = 0; a < nodes; a++) {
                for (int b = a + 1; b < nodes; b++) {
                    if (hasBit(overwriters[a], b) && hasBit(overwriters[b], a)) {
                        pairs++;
                    }
                }
            }
            return pairs;
        }
    }

    /** The text, and what it says if it is a schedule. */
    private static final class Schedule {
        // What is awaited at a place of the text.
        private static final int NOTHING = -1;
        private static final int LETTER = 0;
        private static final int LAST_SLOT = 1;
        private static final int SLOT_OF_READ = 2;
        private static final int KEY_OF_READ = 3;
        private static final int SLOT_OF_WRITE = 4;
        private static final int KEY_OF_WRITE = 5;
        private static final int EQUALS_SIGN = 6;
        private static final int VALUE = 7;
        private static final int FIRST_DIGIT = 8;
        private static final int SECOND_DIGIT_OR_END = 9;
        private static final int THIRD_DIGIT_OR_END = 10;
        private static final int END = 11;
        private static final int MOST_DIGITS = 3;

        final char[] signs = new char[LONGEST_TEXT];
        int length;

        void append(char sign) {
            if (length < LONGEST_TEXT) {
                signs[length] = sign;
                length++;
            }
        }

        char signAt(int index) {
            return index >= 0 && index < length ? signs[index] : 0;
        }

        int firstError() {
            int awaited = LETTER;
            for (int i = 0; i < length; i++) {
                awaited = awaitedAfter(awaited, signAt(i));
                if (awaited == NOTHING) {
                    return i;
                }
            }
            return awaited >= SECOND_DIGIT_OR_END ? NONE : length;
        }

        private static int awaitedAfter(int awaited, char sign) {
            switch (awaited) {
                case LETTER:
                    return awaitedAfterLetter(sign);
                case LAST_SLOT:
                    return isBetween(sign, '0', '7') ? END : NOTHING;
                case SLOT_OF_READ:
                    return isBetween(sign, '0', '7') ? KEY_OF_READ : NOTHING;
                case KEY_OF_READ:
                    return isBetween(sign, 'a', 'l') ? END : NOTHING;
                case SLOT_OF_WRITE:
                    return isBetween(sign, '0', '7') ? KEY_OF_WRITE : NOTHING;
                case KEY_OF_WRITE:
                    return isBetween(sign, 'a', 'l') ? EQUALS_SIGN : NOTHING;
                case EQUALS_SIGN:
                    return sign == '=' ? VALUE : NOTHING;
                case VALUE:
                    return sign == '-' ? FIRST_DIGIT : awaitedAfterDigit(sign, SECOND_DIGIT_OR_END);
                case FIRST_DIGIT:
                    return awaitedAfterDigit(sign, SECOND_DIGIT_OR_END);
                case SECOND_DIGIT_OR_END:
                    return sign == ';' ? LETTER : awaitedAfterDigit(sign, THIRD_DIGIT_OR_END);
                case THIRD_DIGIT_OR_END:
                    return sign == ';' ? LETTER : awaitedAfterDigit(sign, END);
                default:
                    return sign == ';' ? LETTER : NOTHING;
            }
        }

        private static int awaitedAfterLetter(char sign) {
            switch (sign) {
                case 'b':
                case 'c':
                case 'a':
                    return LAST_SLOT;
                case 'r':
                    return SLOT_OF_READ;
                case 'w':
                    return SLOT_OF_WRITE;
                default:
                    return NOTHING;
            }
        }

        private static int awaitedAfterDigit(char sign, int then) {
            return isDigit(sign) ? then : NOTHING;
        }

        private static boolean isDigit(char sign) {
            return isBetween(sign, '0', '9');
        }

        private static boolean isBetween(char sign, char lowest, char highest) {
            return sign >= lowest && sign <= highest;
        }

        int slotOfStep(int at) {
            return signAt(at + 1) - '0';
        }

        int keyOfStep(int at) {
            return signAt(at + 2) - 'a';
        }

        int valueOfStep(int at) {
            boolean negative = signAt(at + 4) == '-';
            int first = negative ? at + 5 : at + 4;
            int number = 0;
            for (int i = first; i < first + MOST_DIGITS && isDigit(signAt(i)); i++) {
                number = 10 * number + (signAt(i) - '0');
            }
            return negative ? -number : number;
        }

        /** The index of the step behind the one that begins at the index. */
        int nextStep(int at) {
            for (int i = at; i < length; i++) {
                if (signs[i] == ';') {
                    return i + 1;
                }
            }
            return length;
        }
    }
}
