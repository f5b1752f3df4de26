/** The boundary sentences of 'Terms': keys, versions, transactions, dependencies and rings. */
public final class TermsOfKeysTest extends Bench {
    public static void main(String[] args) {
        TermsOfKeysTest test = new TermsOfKeysTest();
        test.keysAndTransactions();
        test.dependencies();
        test.rings();
        test.end();
    }

    private void keysAndTransactions() {
        sentence("An object is used for at most 512 calls after it has been made", this::call512);
        sentence("Everything is numbered from 0, if nothing else is said.", this::numberedFrom0);
        sentence("There are 12 keys, 0 to 11.", this::twelveKeys);
        sentence("Each key has a value of -999 to 999", this::valuesOfKeys);
        sentence("0 at first.", this::valuesAtFirst);
        sentence("Commits are numbered from 1 in their order.", this::numberedFrom1);
        sentence("The version of a key as of a number n is the greatest number of a commit, at most n, that wrote "
            + "this key", this::versionAtMostN);
        sentence("it is 0 if there is none.", this::versionOfNone);
        sentence("There are 8 slots, 0 to 7; a slot is free or has an open transaction.", this::eightSlots);
        sentence("A transaction has a snapshot, the number of the latest commit when it began.", this::snapshot);
        sentence("When it reads a key that it has written itself, it gets the value that it wrote last.",
            this::readsOwnWrite);
        sentence("When it reads another key, it gets the value of the version as of its snapshot (however many "
            + "commits there were since)", this::readsOldVersion);
        sentence("and it has read this version of this key then, which is remembered.", this::remembersVersion);
        sentence("What it writes is seen by others only after its commit.", this::seenAfterCommit);
        sentence("The reads of a transaction are the keys that it has read in this second way, whether it writes "
            + "them later or not", this::readsOfTransaction);
        sentence("its writes are the keys that it has written.", this::writesOfTransaction);
    }

    private void dependencies() {
        sentence("1 if both wrote the same key and a < b;", this::bothWrote);
        sentence("2 if b read the version of a key that a wrote;", this::readVersion);
        sentence("4 if a read a version of a key that is lower than b, and b wrote this key.", this::readLower);
        sentence("told as a sum of", this::allSums);
        sentence("told as a sum of", this::severalKeysCountOnce);
        sentence("If the sum is not 0, a must come before b.", this::mustComeBefore);
        sentence("An open transaction has dependencies as if it was committed now, with the next number.",
            this::asIfCommittedNow);
        sentence("The latest 16 commits are kept with their snapshots, reads and writes;", this::sixteenAreKept);
        sentence("older ones have no dependencies any more.", this::olderHaveNoDependencies);
    }

    private void rings() {
        sentence("A ring is a sequence of different commits, at least two", this::atLeastTwo);
        sentence("in which each one must come before the next one, and the last one before the first one.",
            this::eachBeforeNext);
        sentence("in which each one must come before the next one", this::ringsOverEachKind);
        sentence("A ring of a transaction is a ring of the kept commits and this transaction", this::longestRing);
        sentence("that begins with this transaction.", this::beginsWithTransaction);
        sentence("The ring that is told is the shortest one;", this::shortestRing);
        sentence("of several the one that comes first if the sequences are compared number by number, the lower "
            + "number first.", this::firstOfShortest);
    }

    private void call512() {
        for (int i = 1; i <= 255; i++) {
            x.begin(i % 8);
            due("commit in call " + 2 * i, x.commit(i % 8), i);
        }
        due("begin in call 511", x.begin(0), 255);
        due("commit in call 512", x.commit(0), 256);
        x = new SnapshotRings();
        for (int i = 1; i <= 511; i++) {
            x.begin(0);
        }
        due("undo in call 512", x.undo(), 0);
        x = new SnapshotRings();
        for (int i = 1; i <= 511; i++) {
            x.type(33);
        }
        due("type in call 512", x.type(33), LIMIT);
    }

    private void numberedFrom0() {
        due("begin(0)", x.begin(0), 0);
        due("read(0, 0)", x.read(0, 0), 0);
        due("setConstraint(0, 0, 1)", x.setConstraint(0, 0, 1), 0);
        due("holds(0)", x.holds(0), 0);
        due("commit(0)", x.commit(0), 1);
        due("orderAt(0)", x.orderAt(0), 1);
        text("!");
        due("syntaxError", x.syntaxError(), 0);
    }

    private void twelveKeys() {
        play("b0");
        for (int key = 0; key <= 11; key++) {
            due("value", x.value(key), 0);
            due("version", x.version(key), 0);
            due("read", x.read(0, key), 0);
            due("write", x.write(0, key, 100 + key), key + 1);
        }
        due("commit", x.commit(0), 1);
        for (int key = 0; key <= 11; key++) {
            due("value after", x.value(key), 100 + key);
            due("version after", x.version(key), 1);
        }
        play("b0");
        int[] outside = {-1, 12};
        dueAt("value", x::value, outside, NO_SUCH);
        dueAt("version", x::version, outside, NO_SUCH);
        dueAt("read 0,", key -> x.read(0, key), outside, NO_SUCH);
        dueAt("write 0,", key -> x.write(0, key, 1), outside, NO_SUCH);
    }

    private void valuesOfKeys() {
        for (int key = 0; key <= 11; key++) {
            for (int value : new int[] {-999, 999, -998, 998, 0}) {
                play("b0");
                due("write", x.write(0, key, value), 1);
                due("read", x.read(0, key), value);
                play("c0");
                due("value", x.value(key), value);
            }
            play("b0");
            due("write 1000", x.write(0, key, 1000), BAD_VALUE);
            due("write -1000", x.write(0, key, -1000), BAD_VALUE);
            play("c0");
            due("value", x.value(key), 0);
            x = new SnapshotRings();
        }
    }

    private void valuesAtFirst() {
        play("b3");
        for (int key = 0; key <= 11; key++) {
            due("value", x.value(key), 0);
            due("read", x.read(3, key), 0);
        }
        play("b0 w0e=1 c0 b1");
        due("value(4)", x.value(4), 1);
        due("value(3)", x.value(3), 0);
        due("value(5)", x.value(5), 0);
        due("read(1, 5)", x.read(1, 5), 0);
    }

    private void numberedFrom1() {
        due("ofCommit(0, 0)", x.ofCommit(0, 0), NO_SUCH);
        due("ofCommit(1, 0)", x.ofCommit(1, 0), NO_SUCH);
        play("b5 b2");
        due("first commit", x.commit(5), 1);
        due("ofCommit(0, 0)", x.ofCommit(0, 0), NO_SUCH);
        due("ofCommit(1, 0)", x.ofCommit(1, 0), 0);
        due("second commit", x.commit(2), 2);
        for (int i = 3; i <= 40; i++) {
            x.begin(i % 8);
            due("next commit", x.commit(i % 8), i);
        }
    }

    private void versionAtMostN() {
        // The commits 1, 3 and 5 write the key a, and the slot n has the snapshot n.
        play("b0 b7 w7a=10 c7 b1 b7 c7 b2 b7 w7a=30 c7 b3 b7 w7b=1 c7 b4 b7 w7a=50 c7 b5");
        int[] values = {0, 10, 10, 30, 30, 50};
        int[] versions = {0, 1, 1, 3, 3, 5};
        due("version(0)", x.version(0), 5);
        for (int n = 0; n <= 5; n++) {
            due("read as of " + n, x.read(n, 0), values[n]);
        }
        for (int n = 0; n <= 5; n++) {
            due("commit", x.commit(n), 6 + n);
            for (int a = 1; a <= 5; a += 2) {
                due("dependency(" + a + ", reader as of " + n + ")", x.dependency(a, 6 + n), a == versions[n] ? 2 : 0);
                due("dependency(reader as of " + n + ", " + a + ")", x.dependency(6 + n, a), a > versions[n] ? 4 : 0);
            }
        }
    }

    private void versionOfNone() {
        due("version(0)", x.version(0), 0);
        play("b0 w0b=1 c0 b0 w0a=1 a0 b0 w0a=1 b1 r1a");
        due("version(0)", x.version(0), 0);
        due("version(1)", x.version(1), 1);
        play("c1 b2 b3 w2c=1 w3c=1 w3a=1 c2");
        due("refused", step("c3"), -1);
        due("version(0)", x.version(0), 0);
        // The version 0 is read, too: it is lower than each commit.
        play("c0");
        due("version(0)", x.version(0), 4);
        due("dependency(2, 4)", x.dependency(2, 4), 4);
    }

    private void eightSlots() {
        for (int slot = 0; slot <= 7; slot++) {
            due("of of a free slot", x.of(slot, 0), NO_SUCH);
            due("begin", x.begin(slot), 0);
            due("count(1)", x.count(1), slot + 1);
        }
        int[] outside = {-1, 8};
        dueAt("begin", x::begin, outside, NO_SUCH);
        for (int slot = 0; slot <= 7; slot++) {
            due("write", x.write(slot, slot, slot + 1), 1);
            due("read of another slot's key", x.read(slot, (slot + 1) % 8), 0);
            due("begin again", x.begin(slot), NOT_POSSIBLE);
        }
        for (int slot = 7; slot >= 0; slot--) {
            due("commit", x.commit(slot), 8 - slot);
            due("commit again", x.commit(slot), NO_SUCH);
            due("count(1)", x.count(1), slot);
            due("value", x.value(slot), slot + 1);
        }
    }

    private void snapshot() {
        due("begin(0)", x.begin(0), 0);
        play("b7 c7");
        due("begin(1)", x.begin(1), 1);
        emptyCommits(30);
        due("begin(2)", x.begin(2), 31);
        play("c1");
        due("of(0, 0)", x.of(0, 0), 0);
        due("of(2, 0)", x.of(2, 0), 31);
        due("commit(2)", x.commit(2), 33);
        due("ofCommit(32, 0)", x.ofCommit(32, 0), 1);
        due("ofCommit(33, 0)", x.ofCommit(33, 0), 31);
        play("b3 b4 w3a=1 w4a=1 c3");
        due("refused", step("c4"), -1);
        due("begin behind a refused commit", x.begin(4), 34);
        play("a4");
        due("begin behind an abort", x.begin(4), 34);
    }

    private void readsOwnWrite() {
        play("b7 w7a=4 c7 b0");
        due("before its write", x.read(0, 0), 4);
        play("w0a=-999");
        due("its write", x.read(0, 0), -999);
        play("w0a=999 w0a=0");
        due("its last write", x.read(0, 0), 0);
        play("b1 w1a=8 c1");
        due("its write behind another's commit", x.read(0, 0), 0);
        play("w0l=5");
        due("read(0, 11)", x.read(0, 11), 5);
        due("of(0, 1)", x.of(0, 1), 1);
        play("a0 b0");
        due("in its slot afterwards", x.read(0, 0), 8);
    }

    private void readsOldVersion() {
        play("b7 w7a=4 w7l=6 c7 b0");
        for (int since = 1; since <= 110; since++) {
            play("b7 w7a=" + since + " c7");
            if (since == 1 || since >= 14 && since <= 18 || since >= 30 && since <= 34 || since == 110) {
                due("a since " + since, x.read(0, 0), 4);
                due("l since " + since, x.read(0, 11), 6);
                due("b since " + since, x.read(0, 1), 0);
            }
        }
        due("value(0)", x.value(0), 110);
    }

    private void remembersVersion() {
        // The commit 1 writes a, and the slot 0 reads it; 20 commits write a since.
        play("b7 w7a=4 c7 b0 r0a r0b");
        for (int i = 2; i <= 21; i++) {
            play("b7 w7a=1 c7");
        }
        // To read or write the key again does not change the version that was read.
        play("r0a w0a=9 r0a");
        due("commit(0)", x.commit(0), -1);
        play("b0 r0a r0b w0b=7 b1 w1a=2 c1 b2 r2b w2a=3 c2 c0");
        due("dependency(21, 24)", x.dependency(21, 24), 2);
        due("dependency(22, 24)", x.dependency(22, 24), 0);
        due("dependency(24, 21)", x.dependency(24, 21), 0);
        due("dependency(24, 22)", x.dependency(24, 22), 4);
        due("dependency(24, 23)", x.dependency(24, 23), 4);
        due("dependency(23, 24)", x.dependency(23, 24), 4);
    }

    private void seenAfterCommit() {
        play("b0 b1 w0a=5");
        due("value before", x.value(0), 0);
        due("version before", x.version(0), 0);
        due("read of one that began before", x.read(1, 0), 0);
        play("b2 r2a c0 b3");
        due("value after", x.value(0), 5);
        due("version after", x.version(0), 1);
        due("read of one that began before", x.read(2, 0), 0);
        due("read of one that began after", x.read(3, 0), 5);
        play("w3a=6 a3 b3");
        due("value behind an abort", x.value(0), 5);
        due("read behind an abort", x.read(3, 0), 5);
        play("w2a=7");
        due("refused", step("c2"), -1);
        play("b2");
        due("value behind a refused commit", x.value(0), 5);
        due("read behind a refused commit", x.read(2, 0), 5);
    }

    private void readsOfTransaction() {
        play("b0");
        due("none", x.of(0, 1), 0);
        play("r0a r0l");
        due("two", x.of(0, 1), 1 + 2048);
        play("r0a");
        due("the same again", x.of(0, 1), 1 + 2048);
        play("w0a=1 r0a");
        due("written later", x.of(0, 1), 1 + 2048);
        play("w0b=1 r0b r0b");
        due("written before", x.of(0, 1), 1 + 2048);
        play("r0c r0d r0e r0f r0g r0h r0i r0j r0k");
        due("all but b", x.of(0, 1), 4095 - 2);
        play("c0");
        due("ofCommit(1, 1)", x.ofCommit(1, 1), 4095 - 2);
        play("b0 r0a r0b r0c r0d r0e r0f r0g r0h r0i r0j r0k r0l c0");
        due("all", x.ofCommit(2, 1), 4095);
    }

    private void writesOfTransaction() {
        play("b0");
        due("none", x.of(0, 2), 0);
        play("w0l=1 r0a w0l=2 w0b=0");
        due("two", x.of(0, 2), 2 + 2048);
        play("w0a=0 w0c=0 w0d=0 w0e=0 w0f=0 w0g=0 w0h=0 w0i=0 w0j=0 w0k=0");
        due("all", x.of(0, 2), 4095);
        play("c0");
        due("ofCommit(1, 2)", x.ofCommit(1, 2), 4095);
        due("a write of the same value", x.version(0), 1);
    }

    private void bothWrote() {
        play("b0 w0a=1 w0b=1 c0 b0 w0b=1 w0c=1 c0 b0 w0c=1 w0a=1 c0 b0 w0l=1 c0");
        int[][] pairs = {{1, 2}, {1, 3}, {2, 3}};
        for (int[] pair : pairs) {
            due("a < b", x.dependency(pair[0], pair[1]), 1);
            due("a > b", x.dependency(pair[1], pair[0]), 0);
        }
        for (int a = 1; a <= 3; a++) {
            due("no same key", x.dependency(a, 4), 0);
            due("no same key", x.dependency(4, a), 0);
        }
        for (char key = 'a'; key <= 'l'; key++) {
            fresh("b0 w0" + key + "=1 c0 b1 w1" + key + "=1 c1");
            due("both wrote " + key, x.dependency(1, 2), 1);
        }
    }

    private void readVersion() {
        // The commits 1 and 2 write a; the slot 1 reads the version 1, the slot 2 the version 2.
        play("b0 w0a=1 c0 b1 b0 w0a=2 c0 b2 r1a r2a c2 c1");
        due("dependency(2, 3)", x.dependency(2, 3), 2);
        due("dependency(1, 3)", x.dependency(1, 3), 0);
        due("dependency(3, 2)", x.dependency(3, 2), 0);
        due("dependency(1, 4)", x.dependency(1, 4), 2);
        due("dependency(2, 4)", x.dependency(2, 4), 0);
        due("dependency(3, 4)", x.dependency(3, 4), 0);
        // Not what it had in its snapshot, but what it read; and not its own write.
        play("b3 c3 b4 w4a=7 r4a c4");
        due("dependency(2, 5)", x.dependency(2, 5), 0);
        due("dependency(2, 6)", x.dependency(2, 6), 1);
        due("dependency(1, 2)", x.dependency(1, 2), 1);
        for (char key = 'a'; key <= 'l'; key++) {
            fresh("b0 w0" + key + "=1 c0 b0 w0" + key + "=1 c0 b0 r0" + key + " c0");
            due("3 read the version 1 of " + key, x.dependency(1, 3), 0);
            due("3 read the version 2 of " + key, x.dependency(2, 3), 2);
        }
    }

    private void readLower() {
        // The slot 0 reads a as of 0, the slot 1 as of 1, the slot 2 as of 2; 1 and 2 write a.
        play("b0 r0a b7 w7a=1 c7 b1 r1a b7 w7a=2 c7 b2 r2a c0 c1 c2");
        int[][] due = {{4, 4}, {0, 4}, {0, 0}};
        for (int reader = 0; reader < 3; reader++) {
            due("of " + reader + " on 1", x.dependency(3 + reader, 1), due[reader][0]);
            due("of " + reader + " on 2", x.dependency(3 + reader, 2), due[reader][1]);
        }
        play("b0 w0a=3 c0 b0 w0b=1 c0");
        for (int reader = 3; reader <= 5; reader++) {
            due("of a commit ahead", x.dependency(reader, 6), 4);
            due("another key", x.dependency(reader, 7), 0);
            due("the other way round", x.dependency(6, reader), 0);
        }
        for (char key = 'a'; key <= 'l'; key++) {
            fresh("b0 r0" + key + " b1 w1" + key + "=1 c1 b2 r2" + key + " c0 c2");
            due("2 read the version 0 of " + key, x.dependency(2, 1), 4);
            due("3 read the version 1 of " + key, x.dependency(3, 1), 0);
        }
    }

    private void allSums() {
        for (int sum = 0; sum <= 7; sum++) {
            fresh("b0 r0c c0 b0 w0d=1");
            play((sum & 1) != 0 ? "w0a=1" : "");
            play((sum & 2) != 0 ? "w0b=1" : "");
            play((sum & 4) != 0 ? "r0c" : "");
            play("c0 b1 w1c=1 r1b w1a=1 c1");
            due("dependency(2, 3) for " + sum, x.dependency(2, 3), sum);
            due("dependency(3, 2) for " + sum, x.dependency(3, 2), 0);
            due("dependency(1, 3) for " + sum, x.dependency(1, 3), 4);
        }
    }

    /** A kind of dependency counts once in the sum, by however many keys it comes about. */
    private void severalKeysCountOnce() {
        for (int keys = 1; keys <= 12; keys++) {
            String reads = ofKeys("r0", keys, "");
            String writes = ofKeys("w0", keys, "=1");
            fresh("b0 " + writes + "c0 b0 " + writes + "c0");
            due("both wrote " + keys, x.dependency(1, 2), 1);
            fresh("b0 " + writes + "c0 b0 " + reads + "c0");
            due("2 read " + keys + " that 1 wrote", x.dependency(1, 2), 2);
            fresh("b0 " + reads + "b1 " + ofKeys("w1", keys, "=1") + "c1 c0");
            due("2 read " + keys + " lower than 1", x.dependency(2, 1), 4);
            due("1 on 2", x.dependency(1, 2), 0);
        }
        fresh("b0 r0e r0f w0a=1 w0b=1 w0c=1 w0d=1 c0 b0 w0a=2 w0b=2 r0c r0d w0e=2 w0f=2 c0");
        due("all kinds by two keys each", x.dependency(1, 2), 7);
        due("the other way round", x.dependency(2, 1), 0);
    }

    private static String ofKeys(String begin, int keys, String end) {
        StringBuilder steps = new StringBuilder();
        for (int key = 0; key < keys; key++) {
            steps.append(begin).append((char) ('a' + key)).append(end).append(' ');
        }
        return steps.toString();
    }

    private void mustComeBefore() {
        // The commit 3 must come before 1, and 1 before 2 by one kind of dependency or by none.
        String[] kinds = {"w1b=1 c1 b2 w2b=1", "w1b=1 c1 b2 r2b", "r1b c1 b2 w2b=1"};
        int[] sums = {1, 2, 4};
        for (int kind = 0; kind < 3; kind++) {
            fresh("b0 r0a b1 w1a=1 " + kinds[kind] + " c2 c0");
            due("dependency(1, 2)", x.dependency(1, 2), sums[kind]);
            due("dependency(3, 1)", x.dependency(3, 1), 4);
            dueOrder(3, 1, 2);
        }
        fresh("b0 r0a b1 w1a=1 w1b=1 c1 b2 w2c=1 c2 c0");
        due("dependency(1, 2)", x.dependency(1, 2), 0);
        dueOrder(2, 3, 1);
    }

    private void asIfCommittedNow() {
        // Each time the commit 1 is behind the slot 0 by b; and ahead of it by a in one way.
        fresh("b0 r0b w0a=1 b1 w1b=1 w1a=2 c1");
        dueRing(0, 1);
        fresh("b0 r0b w0a=1 b1 w1b=1 r1a c1");
        dueRing(0, 1);
        fresh("b0 r0b w0a=1 b1 w1b=1 w1c=2 c1");
        dueRing(0);
        // The commit 1 is ahead of the slot 0 since that one read its version of a.
        fresh("b5 r5a b1 w1a=1 c1 b0 r0a r0b w5b=1 c5");
        dueRing(0, 2, 1);
        fresh("b5 r5a b1 w1a=1 c1 b0 r0b w5b=1 c5");
        dueRing(0);
        // It is behind all commits: it has no dependency with 1 on any of them.
        fresh("b0 w0a=1 b1 w1a=1 c1 b1 w1a=2 c1");
        dueRing(0);
        // The next number is greater by one with each commit.
        fresh("b0 r0b w0a=1");
        emptyCommits(20);
        play("b1 r1a w1b=1 c1");
        dueRing(0, 21);
        emptyCommits(15);
        dueRing(0, 21);
    }

    private void sixteenAreKept() {
        play("b0 r0a w0b=1 c0");
        for (int i = 2; i <= 16; i++) {
            play("b0 r0a r0b w0c=1 c0");
        }
        due("count(3) with 16", x.count(3), 16);
        due("reads of 1 with 16", x.ofCommit(1, 1), 1);
        due("writes of 1 with 16", x.ofCommit(1, 2), 2);
        due("dependency(1, 16)", x.dependency(1, 16), 2);
        emptyCommits(1);
        due("count(3) with 17", x.count(3), 16);
        due("ofCommit(1, 0) with 17", x.ofCommit(1, 0), NO_SUCH);
        due("dependency(1, 16) with 17", x.dependency(1, 16), NO_SUCH);
        due("snapshot of 2 with 17", x.ofCommit(2, 0), 1);
        due("reads of 2 with 17", x.ofCommit(2, 1), 3);
        due("dependency(2, 16) with 17", x.dependency(2, 16), 1);
        for (int number = 18; number <= 34; number++) {
            play("b0 r0d w0e=1 c0");
            due("the oldest with " + number, x.ofCommit(number - 15, 0), number - 16);
            due("one that is older", x.ofCommit(number - 16, 0), NO_SUCH);
            due("the latest", x.ofCommit(number, 1), 8);
        }
    }

    private void olderHaveNoDependencies() {
        play(SKEW + " c0 c1");
        emptyCommits(14);
        due("inRings with 16", x.inRings(), 2);
        due("skews with 16", x.skews(), 1);
        due("orderAt with 16", x.orderAt(0), NONE);
        emptyCommits(1);
        due("inRings with 17", x.inRings(), 0);
        due("skews with 17", x.skews(), 0);
        due("orderAt with 17", x.orderAt(0), 2);
        // A transaction that stays open longer than its ring is kept.
        fresh("b0 r0b w0a=1 b1 r1a w1b=1 c1");
        emptyCommits(15);
        dueRing(0, 1);
        emptyCommits(1);
        dueRing(0);
    }

    private void atLeastTwo() {
        // A commit that reads and writes the same key has no dependency on itself.
        play("b0 r0a w0a=1 b1 r1b w1b=1");
        dueRing(0);
        play("c0");
        due("inRings", x.inRings(), 0);
        dueOrder(1);
        dueRing(1);
        x.setPolicy(2);
        due("of(1, 3)", x.of(1, 3), 0);
        // Two are enough.
        fresh(SKEW + " c0");
        dueRing(1, 1);
        due("inRings of one", x.inRings(), 0);
        play("c1");
        due("inRings of two", x.inRings(), 2);
    }

    private void eachBeforeNext() {
        fresh(TRIANGLE + " c0 c1");
        dueRing(2, 1, 2);
        play("c2");
        due("inRings", x.inRings(), 3);
        // The same without the dependency of the last one on the first one.
        fresh(CHAIN + " c0 c1");
        dueRing(2);
        play("c2");
        due("inRings of a chain", x.inRings(), 0);
        // And the other way round: a dependency of the first one on the last one closes no ring.
        fresh(CHAIN + " r0b c0 c1");
        dueRing(2);
        play("c2");
        due("inRings", x.inRings(), 0);
        dueOrder(1, 2, 3);
    }

    /** A ring goes over each kind of dependency, and is looked for among the kept ones and with an open one. */
    private void ringsOverEachKind() {
        String[] kinds = {"w2d=2", "r2d", "w2d=2 r2d", "r2d w2d=2"};
        int[] sums = {1, 2, 1, 3};
        for (int kind = 0; kind < kinds.length; kind++) {
            // 0 must come before 1 by a, 1 before 2 by the kind, and 2 before 0 by c.
            fresh("b0 r0a w0c=1 b1 w1a=1 w1d=1 c1 b2 r2c " + kinds[kind] + " c2");
            due("dependency(1, 2) by " + kinds[kind], x.dependency(1, 2), sums[kind]);
            dueRing(0, 1, 2);
            due("inRings without the open one", x.inRings(), 0);
            dueOrder(1, 2);
            play("c0");
            due("dependency(2, 3)", x.dependency(2, 3), 4);
            due("dependency(3, 1)", x.dependency(3, 1), 4);
            due("inRings by " + kinds[kind], x.inRings(), 3);
            due("orderAt(0)", x.orderAt(0), NONE);
            due("skews", x.skews(), 0);
        }
    }

    private void longestRing() {
        play("b0 r0a w0i=1");
        for (int i = 0; i < 8; i++) {
            char key = (char) ('a' + i);
            char next = (char) ('b' + i);
            play("b1 w1" + key + "=1 c1 b1 r1" + key + " r1" + next + " c1");
        }
        due("count(0)", x.count(0), 16);
        dueRing(0, 1, 2, 3, 4, 5, 6, 7, 8, 9, 10, 11, 12, 13, 14, 15, 16);
        due("inRings without it", x.inRings(), 0);
        due("refusedBy", x.refusedBy(0), 1);
        // The first commit is not kept any more, and no ring is left.
        emptyCommits(1);
        dueRing(0);
        // Open transactions are in no ring of another one, and rings of kept commits are not its own.
        fresh(SKEW);
        dueRing(0);
        play("c0 c1 b2 r2a w2c=1");
        dueRing(2);
    }

    private void beginsWithTransaction() {
        // The slot 2 must come before the slot 0, that one before the slot 1, which is the commit 1.
        fresh(TRIANGLE + " c1 c0");
        dueRing(2, 2, 1);
        fresh(TRIANGLE + " c2 c1");
        dueRing(0, 2, 1);
        fresh(TRIANGLE + " c0 c2");
        dueRing(1, 2, 1);
        fresh(TRIANGLE + " c1 c2");
        dueRing(0, 1, 2);
    }

    private void shortestRing() {
        // One of three by 1 and 2, and one of two by 3.
        fresh("b0 r0a r0d w0e=1 b1 w1a=1 c1 b1 r1a r1e c1");
        dueRing(0, 1, 2);
        play("b1 w1d=1 r1e c1");
        dueRing(0, 3);
        // One of four by 1, 2 and 3, and one of three by 4 and 5.
        fresh("b0 r0a r0d w0e=1 b1 w1a=1 c1 b1 r1a w1b=1 c1 b1 r1b r1e c1");
        dueRing(0, 1, 2, 3);
        play("b1 w1d=1 c1 b1 r1d r1e c1");
        dueRing(0, 4, 5);
        // 1 and 2 are both ahead of the slot 0, and the ring is by the first of them.
        fresh("b0 r0a w0e=1 b3 r3b w3a=1 b1 r1e w1b=1 c1 b2 r2e c2 c3");
        dueRing(0, 3, 1);
    }

    private void firstOfShortest() {
        // Rings by 1 and 4 and by 2 and 3: the first number decides.
        fresh("b0 r0a r0b w0e=1 b1 w1a=1 c1 b1 w1b=1 c1 b1 r1b r1e c1 b1 r1a r1e c1");
        dueRing(0, 1, 4);
        // Rings by 1 and 2 and by 1 and 3: the second number decides.
        fresh("b0 r0a w0e=1 b1 w1a=1 c1 b1 r1a r1e c1 b1 r1a r1e c1");
        dueRing(0, 1, 2);
        // 9 is lower than 10, and 16 than 17.
        for (int ahead = 8; ahead <= 15; ahead += 7) {
            fresh("b0 r0a r0b w0c=1");
            emptyCommits(ahead);
            play("b1 r1c w1a=1 c1 b1 r1c w1b=1 c1");
            dueRing(0, ahead + 1);
        }
    }
}
