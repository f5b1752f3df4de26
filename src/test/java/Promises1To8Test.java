/** The boundary sentences of the promises 1 to 8: a new object, settings and transactions. */
public final class Promises1To8Test extends Bench {
    public static void main(String[] args) {
        Promises1To8Test test = new Promises1To8Test();
        test.settings();
        test.readingAndWriting();
        test.ending();
        test.end();
    }

    private void settings() {
        sentence("1: Creates a store without commits", this::newWithoutCommits);
        sentence("1: and open transactions.", this::newWithoutTransactions);
        sentence("2: `policy`: 0 to 2", this::policies);
        sentence("2: Returns the previous policy, initially 0;", this::previousPolicy);
        sentence("2: BAD_VALUE if policy is out of range.", this::badPolicy);
        sentence("3: `constraint`: 0 to 2", this::constraints);
        sentence("3: `keys`: 0 to 4095: its set of keys", this::keysOfConstraint);
        sentence("3: `least`: -9999 to 9999", this::leastsOfConstraint);
        sentence("3: Returns the previous least sum;", this::previousLeast);
        sentence("3: NO_SUCH if there is no such constraint;", this::noSuchConstraint);
        sentence("3: BAD_VALUE if another argument is out of range.", this::badConstraint);
    }

    private void readingAndWriting() {
        sentence("4: `slot`: 0 to 7", this::slotsOfBegin);
        sentence("4: Returns its snapshot;", this::snapshotOfBegin);
        sentence("4: NO_SUCH if there is no such slot;", this::noSlotToBegin);
        sentence("4: NOT_POSSIBLE if the slot is not free.", this::slotIsNotFree);
        sentence("5: `slot`: the slot of an open transaction", this::slotsOfRead);
        sentence("5: `key`: 0 to 11", this::keysOfRead);
        sentence("5: Returns the value;", this::valuesOfRead);
        sentence("5: NO_SUCH if there is no such slot or key, or if the slot is free.", this::nothingToRead);
        sentence("6: `slot`: the slot of an open transaction", this::slotsOfWrite);
        sentence("6: `key`: 0 to 11", this::keysOfWrite);
        sentence("6: `value`: -999 to 999", this::valuesOfWrite);
        sentence("6: Returns the number of its writes then;", this::numberOfWrites);
        sentence("6: NO_SUCH if there is no such slot or key, or if the slot is free;", this::nothingToWrite);
        sentence("6: BAD_VALUE if value is out of range.", this::badValueToWrite);
    }

    private void ending() {
        sentence("7: Commits a transaction, if it is not refused.", this::commitsIfNotRefused);
        sentence("7: `slot`: the slot of an open transaction", this::slotsOfCommit);
        sentence("7: Returns the number of the commit;", this::numberOfCommit);
        sentence("7: minus the reason (-1 to -3) if it is refused, which is not an error code;", this::minusReason);
        sentence("7: NO_SUCH if there is no such slot, or if the slot is free.", this::nothingToCommit);
        sentence("8: Aborts a transaction: it is gone, and its slot is free.", this::abortedIsGone);
        sentence("8: `slot`: the slot of an open transaction", this::slotsOfAbort);
        sentence("8: Returns the number of its writes;", this::writesOfAborted);
        sentence("8: NO_SUCH if there is no such slot, or if the slot is free.", this::nothingToAbort);
    }

    private void newWithoutCommits() {
        due("count(0)", x.count(0), 0);
        due("count(3)", x.count(3), 0);
        due("ofCommit(0, 0)", x.ofCommit(0, 0), NO_SUCH);
        due("ofCommit(1, 0)", x.ofCommit(1, 0), NO_SUCH);
        due("dependency(1, 2)", x.dependency(1, 2), NO_SUCH);
        due("inRings", x.inRings(), 0);
        due("skews", x.skews(), 0);
        due("orderAt(0)", x.orderAt(0), NONE);
        for (int key = 0; key <= 11; key++) {
            due("version", x.version(key), 0);
        }
        for (int what = 4; what <= 7; what++) {
            due("count", x.count(what), 0);
        }
    }

    private void newWithoutTransactions() {
        due("count(1)", x.count(1), 0);
        for (int slot = 0; slot <= 7; slot++) {
            due("of", x.of(slot, 0), NO_SUCH);
            due("commit", x.commit(slot), NO_SUCH);
        }
        due("ifAllCommitted", x.ifAllCommitted(), 3);
        due("undo", x.undo(), NOT_POSSIBLE);
        // Nothing of one object is in another one.
        play("b0 w0a=1 c0 b0");
        SnapshotRings first = x;
        x = new SnapshotRings();
        due("count(0) of another", x.count(0), 0);
        due("count(1) of another", x.count(1), 0);
        due("value(0) of another", x.value(0), 0);
        due("undo of another", x.undo(), NOT_POSSIBLE);
        due("begin of another", x.begin(0), 0);
        x.type('b');
        due("clearText of the first", first.clearText(), 0);
        due("count(0) of the first", first.count(0), 1);
    }

    private void policies() {
        for (int policy = 0; policy <= 2; policy++) {
            due("setPolicy", x.setPolicy(policy), policy == 0 ? 0 : policy - 1);
            due("count(2)", x.count(2), policy);
        }
    }

    private void previousPolicy() {
        due("initially", x.setPolicy(2), 0);
        due("behind 2", x.setPolicy(2), 2);
        due("behind 2 again", x.setPolicy(0), 2);
        due("behind 0", x.setPolicy(1), 0);
        due("behind 1", x.setPolicy(3), BAD_VALUE);
        due("behind a bad one", x.setPolicy(0), 1);
    }

    private void badPolicy() {
        x.setPolicy(1);
        dueAt("setPolicy", x::setPolicy, new int[] {-1, 3}, BAD_VALUE);
        dueAt("setPolicy", x::setPolicy, FAR_OUT, BAD_VALUE);
        due("count(2)", x.count(2), 1);
    }

    private void constraints() {
        for (int constraint = 0; constraint <= 2; constraint++) {
            due("setConstraint", x.setConstraint(constraint, 0, 1), 0);
            for (int other = 0; other <= 2; other++) {
                due("holds of " + other, x.holds(other), other <= constraint ? 0 : 1);
            }
        }
    }

    private void keysOfConstraint() {
        play("b0 w0a=1 w0l=2 w0f=4 c0");
        int[] sets = {0, 1, 2047, 2048, 4094, 4095};
        int[] sums = {0, 1, 5, 2, 6, 7};
        for (int i = 0; i < sets.length; i++) {
            due("setConstraint(0, " + sets[i] + ")", x.setConstraint(0, sets[i], sums[i]) > NO_SUCH ? 1 : 0, 1);
            due("holds", x.holds(0), 1);
            x.setConstraint(0, sets[i], sums[i] + 1);
            due("holds with one more", x.holds(0), 0);
        }
    }

    private void leastsOfConstraint() {
        int[] leasts = {-9999, -9998, -1, 0, 1, 9998, 9999};
        for (int least : leasts) {
            due("setConstraint", x.setConstraint(2, 0, least) > NO_SUCH ? 1 : 0, 1);
            due("holds with " + least, x.holds(2), least <= 0 ? 1 : 0);
        }
    }

    private void previousLeast() {
        due("at first", x.setConstraint(0, 0, 9999), 0);
        due("behind 9999", x.setConstraint(0, 0, -9999), 9999);
        due("behind -9999", x.setConstraint(0, 0, 0), -9999);
        due("behind 0", x.setConstraint(0, 4095, 7), 0);
        due("of another", x.setConstraint(1, 0, 8), 0);
        due("behind 7", x.setConstraint(0, 0, 0), 7);
    }

    private void noSuchConstraint() {
        int[] outside = {-1, 3};
        dueAt("setConstraint", constraint -> x.setConstraint(constraint, 1, 1), outside, NO_SUCH);
        dueAt("setConstraint", constraint -> x.setConstraint(constraint, 1, 1), FAR_OUT, NO_SUCH);
        dueAt("setConstraint", constraint -> x.setConstraint(constraint, 4096, -10000), outside, NO_SUCH);
        for (int constraint = 0; constraint <= 2; constraint++) {
            due("holds", x.holds(constraint), 1);
        }
    }

    private void badConstraint() {
        x.setConstraint(1, 0, 3);
        dueAt("setConstraint keys", keys -> x.setConstraint(1, keys, 0), new int[] {-1, 4096}, BAD_VALUE);
        dueAt("setConstraint keys", keys -> x.setConstraint(1, keys, 0), FAR_OUT, BAD_VALUE);
        dueAt("setConstraint least", least -> x.setConstraint(1, 1, least), new int[] {-10000, 10000}, BAD_VALUE);
        dueAt("setConstraint least", least -> x.setConstraint(1, 1, least), FAR_OUT, BAD_VALUE);
        due("setConstraint both", x.setConstraint(1, 4096, 10000), BAD_VALUE);
        due("setConstraint", x.setConstraint(1, 0, 0), 3);
    }

    private void slotsOfBegin() {
        for (int slot = 0; slot <= 7; slot++) {
            due("begin", x.begin(slot), 0);
            due("of", x.of(slot, 0), 0);
            due("of the next slot", x.of((slot + 1) % 8, 0), slot == 7 ? 0 : NO_SUCH);
        }
    }

    private void snapshotOfBegin() {
        due("without commits", x.begin(0), 0);
        for (int commits = 1; commits <= 40; commits++) {
            emptyCommits(1);
            due("begin", x.begin(1), commits);
            play("a1");
        }
        due("of an older one", x.of(0, 0), 0);
    }

    private void noSlotToBegin() {
        dueAt("begin", x::begin, new int[] {-1, 8, 32, -32}, NO_SUCH);
        dueAt("begin", x::begin, FAR_OUT, NO_SUCH);
        due("count(1)", x.count(1), 0);
    }

    private void slotIsNotFree() {
        for (int slot = 0; slot <= 7; slot++) {
            play("b" + slot + " r" + slot + "a w" + slot + "b=3");
            due("begin", x.begin(slot), NOT_POSSIBLE);
            due("reads", x.of(slot, 1), 1);
            due("writes", x.of(slot, 2), 2);
        }
        // It is free behind a commit, an abort, and a refusal.
        play("c0");
        due("begin behind a commit", x.begin(0), 1);
        play("a1");
        due("begin behind an abort", x.begin(1), 1);
        due("refused", x.commit(2), -1);
        due("begin behind a refusal", x.begin(2), 1);
    }

    private void slotsOfRead() {
        for (int slot = 0; slot <= 7; slot++) {
            due("read of a free slot", x.read(slot, 0), NO_SUCH);
            play("b" + slot);
            due("read", x.read(slot, slot), 0);
            due("reads", x.of(slot, 1), 1 << slot);
        }
    }

    private void keysOfRead() {
        play("b0");
        int reads = 0;
        for (int key = 11; key >= 0; key--) {
            due("read", x.read(0, key), 0);
            reads += 1 << key;
            due("reads", x.of(0, 1), reads);
        }
    }

    private void valuesOfRead() {
        play("b7 w7a=-999 w7l=999 w7b=0 c7 b0");
        due("read(0, 0)", x.read(0, 0), -999);
        due("read(0, 11)", x.read(0, 11), 999);
        due("read(0, 1)", x.read(0, 1), 0);
        due("read(0, 2)", x.read(0, 2), 0);
        play("w0a=999 w0l=-999");
        due("read(0, 0)", x.read(0, 0), 999);
        due("read(0, 11)", x.read(0, 11), -999);
        // Values that a refused commit() could return, too.
        play("b7 w7c=-1 w7d=-3 c7 b1");
        due("read(1, 2)", x.read(1, 2), -1);
        due("read(1, 3)", x.read(1, 3), -3);
    }

    private void nothingToRead() {
        play("b0 b7 b3 c3 b4 a4");
        dueAt("read slot", slot -> x.read(slot, 0), new int[] {-1, 8, 32, 1, 3, 4, 6}, NO_SUCH);
        dueAt("read slot", slot -> x.read(slot, 0), FAR_OUT, NO_SUCH);
        dueAt("read key", key -> x.read(0, key), new int[] {-1, 12, 32}, NO_SUCH);
        dueAt("read key", key -> x.read(0, key), FAR_OUT, NO_SUCH);
        dueAt("read key of the last slot", key -> x.read(7, key), new int[] {-1, 12}, NO_SUCH);
        due("read(1, 12)", x.read(1, 12), NO_SUCH);
        due("of(0, 1)", x.of(0, 1), 0);
    }

    private void slotsOfWrite() {
        for (int slot = 0; slot <= 7; slot++) {
            due("write of a free slot", x.write(slot, 0, 1), NO_SUCH);
            play("b" + slot);
            due("write", x.write(slot, slot, 1), 1);
            due("writes", x.of(slot, 2), 1 << slot);
        }
    }

    private void keysOfWrite() {
        play("b0");
        int writes = 0;
        for (int key = 11; key >= 0; key--) {
            due("write", x.write(0, key, key), 12 - key);
            writes += 1 << key;
            due("writes", x.of(0, 2), writes);
        }
        for (int key = 0; key <= 11; key++) {
            due("read", x.read(0, key), key);
        }
    }

    private void valuesOfWrite() {
        play("b0");
        for (int value : new int[] {-999, -998, -1, 0, 1, 998, 999}) {
            due("write(0, 5, " + value + ")", x.write(0, 5, value), 1);
            due("read(0, 5)", x.read(0, 5), value);
        }
    }

    private void numberOfWrites() {
        play("b0 b1");
        for (int key = 0; key <= 11; key++) {
            due("a new key", x.write(0, key, 1), key + 1);
            due("the same key", x.write(0, key, 2), key + 1);
            due("the first key", x.write(0, 0, 3), key + 1);
        }
        due("of another transaction", x.write(1, 4, 1), 1);
        play("r1d");
        due("a key that it read", x.write(1, 3, 1), 2);
        play("c0 b0");
        due("of a new transaction", x.write(0, 11, 1), 1);
    }

    private void nothingToWrite() {
        play("b0 b7 b3 c3 b4 a4");
        dueAt("write slot", slot -> x.write(slot, 0, 1), new int[] {-1, 8, 32, 1, 3, 4, 6}, NO_SUCH);
        dueAt("write slot", slot -> x.write(slot, 0, 1), FAR_OUT, NO_SUCH);
        dueAt("write key", key -> x.write(0, key, 1), new int[] {-1, 12, 32}, NO_SUCH);
        dueAt("write key", key -> x.write(0, key, 1), FAR_OUT, NO_SUCH);
        dueAt("write key of the last slot", key -> x.write(7, key, 1), new int[] {-1, 12}, NO_SUCH);
        due("write(1, 12, 1000)", x.write(1, 12, 1000), NO_SUCH);
        due("of(0, 2)", x.of(0, 2), 0);
        due("of(7, 2)", x.of(7, 2), 0);
    }

    private void badValueToWrite() {
        play("b0 w0a=7");
        dueAt("write value", value -> x.write(0, 0, value), new int[] {-1000, 1000}, BAD_VALUE);
        dueAt("write value", value -> x.write(0, 1, value), FAR_OUT, BAD_VALUE);
        due("read(0, 0)", x.read(0, 0), 7);
        due("of(0, 2)", x.of(0, 2), 1);
    }

    private void commitsIfNotRefused() {
        play("b0 w0a=5 w0l=-6 b1 w1a=7 w1b=8");
        due("commit(0)", x.commit(0), 1);
        due("value(0)", x.value(0), 5);
        due("value(11)", x.value(11), -6);
        due("commit(1)", x.commit(1), -1);
        due("value(0)", x.value(0), 5);
        due("value(1)", x.value(1), 0);
        due("version(1)", x.version(1), 0);
        due("count(0)", x.count(0), 1);
        due("count(3)", x.count(3), 1);
    }

    private void slotsOfCommit() {
        for (int slot = 0; slot <= 7; slot++) {
            due("commit of a free slot", x.commit(slot), NO_SUCH);
            play("b" + slot + " w" + slot + "a=" + slot);
            due("commit", x.commit(slot), slot + 1);
            due("value(0)", x.value(0), slot);
        }
    }

    private void numberOfCommit() {
        for (int number = 1; number <= 100; number++) {
            play("b7");
            due("commit", x.commit(7), number);
        }
        // A refused one, and an aborted one, takes no number.
        play("b0 b1 w0a=1 w1a=1");
        due("commit(0)", x.commit(0), 101);
        due("commit(1)", x.commit(1), -1);
        play("b1 a1 b2");
        due("commit(2)", x.commit(2), 102);
    }

    private void minusReason() {
        String[] ready = {"b0 b1 w0a=1 w1a=2 c0", SKEW + " c0", "b2 r2a b0 w0b=1 b1 r1b w1a=1 c2 c0"};
        for (int reason = 1; reason <= 3; reason++) {
            fresh(ready[reason - 1]);
            x.setPolicy(2);
            long before = x.digest();
            due("commit(1)", x.commit(1), -reason);
            due("count(1)", x.count(1), 0);
            // A state is saved, as for a call that returns no error code.
            due("undo", x.undo(), 5);
            due("digest", x.digest(), before);
            text("c1;b1;c1");
            due("steps with a refused one", x.carryOut(), 3);
        }
    }

    private void nothingToCommit() {
        play("b0 b3 c3 b4 a4");
        dueAt("commit", x::commit, new int[] {-1, 8, 32, 1, 3, 4, 7}, NO_SUCH);
        dueAt("commit", x::commit, FAR_OUT, NO_SUCH);
        due("count(0)", x.count(0), 1);
        due("commit(0)", x.commit(0), 2);
        due("commit(0) again", x.commit(0), NO_SUCH);
    }

    private void abortedIsGone() {
        play("b0 r0a w0a=5");
        due("abort(0)", x.abort(0), 1);
        due("of(0, 0)", x.of(0, 0), NO_SUCH);
        due("count(1)", x.count(1), 0);
        due("count(0)", x.count(0), 0);
        due("value(0)", x.value(0), 0);
        due("version(0)", x.version(0), 0);
        due("commit(0)", x.commit(0), NO_SUCH);
        due("begin(0)", x.begin(0), 0);
        due("reads", x.of(0, 1), 0);
        due("writes", x.of(0, 2), 0);
        due("read(0, 0)", x.read(0, 0), 0);
    }

    private void slotsOfAbort() {
        for (int slot = 0; slot <= 7; slot++) {
            due("abort of a free slot", x.abort(slot), NO_SUCH);
            play("b" + slot + " b" + (slot + 1) % 8);
            due("abort", x.abort(slot), 0);
            due("the other slot", x.abort((slot + 1) % 8), 0);
            due("count(7)", x.count(7), 2 * slot + 2);
        }
    }

    private void writesOfAborted() {
        for (int writes = 0; writes <= 12; writes++) {
            play("b0 r0a");
            for (int key = 0; key < writes; key++) {
                x.write(0, key, 1);
                x.write(0, key, 2);
            }
            due("abort", x.abort(0), writes);
        }
    }

    private void nothingToAbort() {
        play("b0 b3 c3 b4 a4");
        dueAt("abort", x::abort, new int[] {-1, 8, 32, 1, 3, 4, 7}, NO_SUCH);
        dueAt("abort", x::abort, FAR_OUT, NO_SUCH);
        due("count(7)", x.count(7), 1);
        due("count(1)", x.count(1), 1);
        due("abort(0)", x.abort(0), 0);
        due("abort(0) again", x.abort(0), NO_SUCH);
    }
}
