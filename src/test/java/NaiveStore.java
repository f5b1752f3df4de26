import java.util.ArrayDeque;
import java.util.ArrayList;
import java.util.Deque;
import java.util.List;
import java.util.Map;
import java.util.TreeMap;
import java.util.TreeSet;
import java.util.regex.Matcher;
import java.util.regex.Pattern;

/**
 * The document said again in the slowest plain way, to be compared with SnapshotRings: all commits
 * are kept for ever, rings are sought by trying sequences, texts are matched by a pattern.
 */
final class NaiveStore {
    static final int NO_SUCH = -20001;
    static final int BAD_VALUE = -20002;
    static final int NOT_POSSIBLE = -20003;
    static final int LIMIT = -20004;
    static final int BAD_TEXT = -20005;
    static final int NONE = -20006;

    private static final Pattern STEP =
        Pattern.compile("[bca][0-7]|r[0-7][a-l]|w[0-7][a-l]=-?[0-9]{1,3}");
    private static final Pattern SCHEDULE =
        Pattern.compile("(" + STEP + ")(;(" + STEP + "))*");
    private static final String[] COMPLETIONS = {"", "b0", "0", "0a", "a", "0a=0", "a=0", "=0"};

    private static final class Work {
        final int number;
        final int snapshot;
        final TreeMap<Integer, Integer> readVersions;
        final TreeMap<Integer, Integer> written;

        Work(int number, int snapshot, Map<Integer, Integer> readVersions, Map<Integer, Integer> written) {
            this.number = number;
            this.snapshot = snapshot;
            this.readVersions = new TreeMap<>(readVersions);
            this.written = new TreeMap<>(written);
        }

        Work numbered(int newNumber) {
            return new Work(newNumber, snapshot, readVersions, written);
        }
    }

    private static final class Data {
        int policy = 0;
        int aborts = 0;
        int[] refusals = new int[4];
        int[][] constraints = new int[3][2];
        List<Work> commits = new ArrayList<>();
        Work[] open = new Work[8];

        Data copy() {
            Data other = new Data();
            other.policy = policy;
            other.aborts = aborts;
            other.refusals = refusals.clone();
            for (int i = 0; i < 3; i++) {
                other.constraints[i] = constraints[i].clone();
            }
            other.commits = new ArrayList<>(commits);
            for (int i = 0; i < 8; i++) {
                other.open[i] = open[i] == null ? null : open[i].numbered(0);
            }
            return other;
        }

        int valueAsOf(int key, int n) {
            int version = versionAsOf(key, n);
            return version == 0 ? 0 : commits.get(version - 1).written.get(key);
        }

        int versionAsOf(int key, int n) {
            int version = 0;
            for (Work work : commits) {
                if (work.number <= n && work.written.containsKey(key)) {
                    version = work.number;
                }
            }
            return version;
        }

        List<Work> kept() {
            return commits.subList(Math.max(0, commits.size() - 16), commits.size());
        }

        List<Work> keptAnd(int slot) {
            List<Work> all = new ArrayList<>(kept());
            all.add(open[slot].numbered(commits.size() + 1));
            return all;
        }
    }

    private Data data = new Data();
    private final Deque<Data> saved = new ArrayDeque<>();
    private String text = "";

    private void save() {
        saved.addLast(data.copy());
        if (saved.size() > 6) {
            saved.removeFirst();
        }
    }

    private static boolean in(int number, int lowest, int highest) {
        return lowest <= number && number <= highest;
    }

    private boolean isFree(int slot) {
        return !in(slot, 0, 7) || data.open[slot] == null;
    }

    private static int mask(Iterable<Integer> keys) {
        int mask = 0;
        for (int key : keys) {
            mask += 1 << key;
        }
        return mask;
    }

    int setPolicy(int policy) {
        if (!in(policy, 0, 2)) {
            return BAD_VALUE;
        }
        save();
        int previous = data.policy;
        data.policy = policy;
        return previous;
    }

    int setConstraint(int constraint, int keys, int least) {
        if (!in(constraint, 0, 2)) {
            return NO_SUCH;
        }
        if (!in(keys, 0, 4095) || !in(least, -9999, 9999)) {
            return BAD_VALUE;
        }
        save();
        int previous = data.constraints[constraint][1];
        data.constraints[constraint] = new int[] {keys, least};
        return previous;
    }

    int begin(int slot) {
        return undoable(slot, "b", 0, 0);
    }

    int read(int slot, int key) {
        return undoable(slot, "r", key, 0);
    }

    int write(int slot, int key, int value) {
        return undoable(slot, "w", key, value);
    }

    int commit(int slot) {
        return undoable(slot, "c", 0, 0);
    }

    int abort(int slot) {
        return undoable(slot, "a", 0, 0);
    }

    private int undoable(int slot, String letter, int key, int value) {
        Data before = data.copy();
        int answer = step(slot, letter, key, value);
        if (answer > NO_SUCH) {
            Data after = data;
            data = before;
            save();
            data = after;
        }
        return answer;
    }

    private int step(int slot, String letter, int key, int value) {
        if (letter.equals("b")) {
            if (!in(slot, 0, 7)) {
                return NO_SUCH;
            }
            if (data.open[slot] != null) {
                return NOT_POSSIBLE;
            }
            data.open[slot] = new Work(0, data.commits.size(), Map.of(), Map.of());
            return data.commits.size();
        }
        if (isFree(slot) || !in(key, 0, 11)) {
            return NO_SUCH;
        }
        Work work = data.open[slot];
        switch (letter) {
            case "r":
                if (work.written.containsKey(key)) {
                    return work.written.get(key);
                }
                work.readVersions.put(key, data.versionAsOf(key, work.snapshot));
                return data.valueAsOf(key, work.snapshot);
            case "w":
                if (!in(value, -999, 999)) {
                    return BAD_VALUE;
                }
                work.written.put(key, value);
                return work.written.size();
            case "c":
                return finish(data, slot);
            default:
                data.open[slot] = null;
                data.aborts++;
                return work.written.size();
        }
    }

    private static int finish(Data in, int slot) {
        int reason = reason(in, slot, in.policy);
        if (reason != 0) {
            in.refusals[reason]++;
            in.open[slot] = null;
            return -reason;
        }
        in.commits.add(in.open[slot].numbered(in.commits.size() + 1));
        in.open[slot] = null;
        return in.commits.size();
    }

    private static int reason(Data in, int slot, int policy) {
        for (int key : in.open[slot].written.keySet()) {
            if (in.versionAsOf(key, in.commits.size()) > in.open[slot].snapshot) {
                return 1;
            }
        }
        List<Work> all = in.keptAnd(slot);
        Work itself = all.get(all.size() - 1);
        if (policy >= 1 && ring(all, itself) != null) {
            return 2;
        }
        if (policy == 2) {
            for (Work a : all) {
                for (Work pivot : all) {
                    for (Work b : all) {
                        boolean with = a == itself || pivot == itself || b == itself;
                        if (with && a != pivot && pivot != b
                            && (dependency(a, pivot) & 4) != 0 && (dependency(pivot, b) & 4) != 0) {
                            return 3;
                        }
                    }
                }
            }
        }
        return 0;
    }

    private static int dependency(Work a, Work b) {
        boolean same = false;
        boolean readBy = false;
        boolean overwritten = false;
        for (int key = 0; key < 12; key++) {
            same |= a.written.containsKey(key) && b.written.containsKey(key) && a.number < b.number;
            readBy |= b.readVersions.getOrDefault(key, -1) == a.number;
            overwritten |= b.written.containsKey(key)
                && a.readVersions.getOrDefault(key, Integer.MAX_VALUE) < b.number;
        }
        return (same ? 1 : 0) + (readBy ? 2 : 0) + (overwritten ? 4 : 0);
    }

    /** The first of the shortest rings that begin with this one, null if there is none. */
    private static List<Integer> ring(List<Work> all, Work first) {
        for (int length = 2; length <= all.size(); length++) {
            List<Work> sequence = new ArrayList<>();
            sequence.add(first);
            if (extend(all, sequence, length)) {
                List<Integer> numbers = new ArrayList<>();
                for (Work work : sequence) {
                    numbers.add(work.number);
                }
                return numbers;
            }
        }
        return null;
    }

    private static boolean extend(List<Work> all, List<Work> sequence, int length) {
        Work last = sequence.get(sequence.size() - 1);
        if (sequence.size() == length) {
            return dependency(last, sequence.get(0)) != 0;
        }
        for (Work next : all) {
            if (!sequence.contains(next) && dependency(last, next) != 0) {
                sequence.add(next);
                if (extend(all, sequence, length)) {
                    return true;
                }
                sequence.remove(sequence.size() - 1);
            }
        }
        return false;
    }

    int count(int what) {
        int open = 0;
        for (Work work : data.open) {
            open += work == null ? 0 : 1;
        }
        int[] numbers = {data.commits.size(), open, data.policy, data.kept().size(),
            data.refusals[1], data.refusals[2], data.refusals[3], data.aborts};
        return in(what, 0, 7) ? numbers[what] : BAD_VALUE;
    }

    int value(int key) {
        return in(key, 0, 11) ? data.valueAsOf(key, data.commits.size()) : NO_SUCH;
    }

    int version(int key) {
        return in(key, 0, 11) ? data.versionAsOf(key, data.commits.size()) : NO_SUCH;
    }

    int of(int slot, int what) {
        if (isFree(slot)) {
            return NO_SUCH;
        }
        return what == 3 ? reason(data, slot, data.policy) : part(data.open[slot], what);
    }

    private static int part(Work work, int what) {
        return what == 0 ? work.snapshot
            : what == 1 ? mask(work.readVersions.keySet())
            : what == 2 ? mask(work.written.keySet())
            : BAD_VALUE;
    }

    private Work keptCommit(int number) {
        for (Work work : data.kept()) {
            if (work.number == number) {
                return work;
            }
        }
        return null;
    }

    int ofCommit(int commit, int what) {
        Work work = keptCommit(commit);
        return work == null ? NO_SUCH : part(work, what);
    }

    int dependency(int a, int b) {
        Work workA = keptCommit(a);
        Work workB = keptCommit(b);
        if (workA == null || workB == null) {
            return NO_SUCH;
        }
        return a == b ? BAD_VALUE : dependency(workA, workB);
    }

    int ringOf(int slot, int index) {
        if (isFree(slot)) {
            return NO_SUCH;
        }
        if (index <= 0) {
            return BAD_VALUE;
        }
        List<Work> all = data.keptAnd(slot);
        List<Integer> ring = ring(all, all.get(all.size() - 1));
        return ring == null || index >= ring.size() ? NONE : ring.get(index);
    }

    int inRings() {
        int count = 0;
        for (Work work : data.kept()) {
            count += comesBackTo(work) ? 1 : 0;
        }
        return count;
    }

    private boolean comesBackTo(Work start) {
        TreeSet<Integer> seen = new TreeSet<>();
        Deque<Work> waiting = new ArrayDeque<>();
        waiting.add(start);
        while (!waiting.isEmpty()) {
            Work from = waiting.poll();
            for (Work to : data.kept()) {
                if (to != from && dependency(from, to) != 0) {
                    if (to == start) {
                        return true;
                    }
                    if (seen.add(to.number)) {
                        waiting.add(to);
                    }
                }
            }
        }
        return false;
    }

    int orderAt(int index) {
        if (index < 0) {
            return BAD_VALUE;
        }
        List<Integer> order = new ArrayList<>();
        List<Work> left = new ArrayList<>(data.kept());
        while (!left.isEmpty()) {
            Work next = null;
            for (Work work : left) {
                boolean possible = true;
                for (Work other : left) {
                    possible &= other == work || dependency(other, work) == 0;
                }
                if (possible && next == null) {
                    next = work;
                }
            }
            if (next == null) {
                return NONE;
            }
            order.add(next.number);
            left.remove(next);
        }
        return index < order.size() ? order.get(index) : NONE;
    }

    int skews() {
        int pairs = 0;
        for (Work a : data.kept()) {
            for (Work b : data.kept()) {
                if (a.number < b.number && (dependency(a, b) & 4) != 0 && (dependency(b, a) & 4) != 0) {
                    pairs++;
                }
            }
        }
        return pairs;
    }

    int holds(int constraint) {
        return in(constraint, 0, 2) ? holdsIn(data, constraint) : NO_SUCH;
    }

    private static int holdsIn(Data in, int constraint) {
        int sum = 0;
        for (int key = 0; key < 12; key++) {
            if ((in.constraints[constraint][0] & 1 << key) != 0) {
                sum += in.valueAsOf(key, in.commits.size());
            }
        }
        return sum >= in.constraints[constraint][1] ? 1 : 0;
    }

    int holdsFor(int slot, int constraint) {
        if (isFree(slot) || !in(constraint, 0, 2)) {
            return NO_SUCH;
        }
        Work work = data.open[slot];
        int sum = 0;
        for (int key = 0; key < 12; key++) {
            if ((data.constraints[constraint][0] & 1 << key) != 0) {
                Integer own = work.written.get(key);
                sum += own != null ? own : data.valueAsOf(key, work.snapshot);
            }
        }
        return sum >= data.constraints[constraint][1] ? 1 : 0;
    }

    int ifAllCommitted() {
        Data later = data.copy();
        for (int slot = 0; slot < 8; slot++) {
            if (later.open[slot] != null) {
                finish(later, slot);
            }
        }
        return holdsIn(later, 0) + holdsIn(later, 1) + holdsIn(later, 2);
    }

    int refusedBy(int slot) {
        if (isFree(slot)) {
            return NO_SUCH;
        }
        for (int policy = 0; policy < 3; policy++) {
            if (reason(data, slot, policy) != 0) {
                return policy;
            }
        }
        return NONE;
    }

    int type(int code) {
        if (!in(code, 33, 126)) {
            return BAD_VALUE;
        }
        if (text.length() == 80) {
            return LIMIT;
        }
        text += (char) code;
        return text.length();
    }

    int clearText() {
        int previous = text.length();
        text = "";
        return previous;
    }

    int syntaxError() {
        for (int i = 0; i < text.length(); i++) {
            boolean begins = false;
            for (String completion : COMPLETIONS) {
                begins |= SCHEDULE.matcher(text.substring(0, i + 1) + completion).matches();
            }
            if (!begins) {
                return i;
            }
        }
        return SCHEDULE.matcher(text).matches() ? NONE : text.length();
    }

    int carryOut() {
        if (!SCHEDULE.matcher(text).matches()) {
            return BAD_TEXT;
        }
        save();
        int steps = 0;
        Matcher matcher = STEP.matcher(text);
        while (matcher.find()) {
            String found = matcher.group();
            int key = found.length() > 2 ? found.charAt(2) - 'a' : 0;
            int value = found.length() > 4 ? Integer.parseInt(found.substring(4)) : 0;
            if (step(found.charAt(1) - '0', found.substring(0, 1), key, value) <= NO_SUCH) {
                break;
            }
            steps++;
        }
        text = "";
        return steps;
    }

    int undo() {
        if (saved.isEmpty()) {
            return NOT_POSSIBLE;
        }
        data = saved.removeLast();
        return saved.size();
    }

    long digest() {
        List<Integer> list = new ArrayList<>();
        for (int what = 0; what <= 7; what++) {
            list.add(count(what));
        }
        for (int key = 0; key < 12; key++) {
            list.add(value(key));
            list.add(version(key));
        }
        for (int slot = 0; slot < 8; slot++) {
            if (!isFree(slot)) {
                list.add(slot);
                for (int what = 0; what < 4; what++) {
                    list.add(of(slot, what));
                }
                for (int constraint = 0; constraint < 3; constraint++) {
                    list.add(holdsFor(slot, constraint));
                }
            }
        }
        for (Work work : data.kept()) {
            list.add(work.number);
            for (int what = 0; what < 3; what++) {
                list.add(part(work, what));
            }
        }
        for (Work a : data.kept()) {
            for (Work b : data.kept()) {
                if (a.number < b.number) {
                    list.add(dependency(a, b));
                    list.add(dependency(b, a));
                }
            }
        }
        list.add(inRings());
        for (int index = 0; index <= 15; index++) {
            list.add(orderAt(index));
        }
        for (int constraint = 0; constraint < 3; constraint++) {
            list.add(holds(constraint));
        }
        long hash = 368;
        for (int number : list) {
            hash = 31 * hash + number;
        }
        return hash;
    }
}
