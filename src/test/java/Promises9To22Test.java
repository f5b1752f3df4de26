/** The boundary sentences of the promises 9 to 22: the questions and the forecasts. */
public final class Promises9To22Test extends Bench {
    private static final String[] BY_REASON = {"b0 b1 r1c w0a=1 w1a=2 c0", SKEW + " c0",
        "b2 r2a b0 w0b=1 b1 r1b w1a=1 c2 c0"};

    public static void main(String[] args) {
        Promises9To22Test test = new Promises9To22Test();
        test.numbers();
        test.transactionsAndCommits();
        test.graph();
        test.constraintsAndForecasts();
        test.end();
    }

    private void numbers() {
        sentence("9: 0 for the number of commits so far", this::countCommits);
        sentence("9: 1 for the number of open transactions", this::countOpen);
        sentence("9: 2 for the policy", this::countPolicy);
        sentence("9: 3 for the number of kept commits", this::countKept);
        sentence("9: 4 to 6 for the number of transactions that were refused so far by the reasons 1 to 3",
            this::countRefused);
        sentence("9: 7 for the number of aborts by abort() so far", this::countAborts);
        sentence("9: Returns the number; BAD_VALUE if what is out of range.", this::badCount);
        sentence("10: `key`: 0 to 11", this::keysOfValue);
        sentence("10: Returns the value of a key as of the latest commit.", this::valueAsOfLatest);
        sentence("10: NO_SUCH if there is no such key.", this::noKeyOfValue);
        sentence("11: `key`: 0 to 11", this::keysOfVersion);
        sentence("11: Returns the version of a key as of the latest commit.", this::versionAsOfLatest);
        sentence("11: NO_SUCH if there is no such key.", this::noKeyOfVersion);
    }

    private void transactionsAndCommits() {
        sentence("12: `slot`: the slot of an open transaction", this::slotsOfOf);
        sentence("12: 0 for its snapshot, 1 for the set of its reads, 2 for the set of its writes (bit masks)",
            this::setsOfOf);
        sentence("12: 3 for the reason by which it would be refused if it was committed now", this::reasonOfOf);
        sentence("12: (0 if it would not be)", this::noReasonOfOf);
        sentence("12: NO_SUCH if there is no such slot, or if the slot is free;", this::nothingForOf);
        sentence("12: BAD_VALUE if what is out of range.", this::badOf);
        sentence("13: Returns something about a kept commit.", this::keptOfCommit);
        sentence("13: 0 for its snapshot, 1 for the set of its reads, 2 for the set of its writes (bit masks)",
            this::setsOfCommit);
        sentence("13: NO_SUCH if there is no such commit, or if it is not kept;", this::noSuchCommit);
        sentence("13: or if it is not kept;", this::eachOldCommit);
        sentence("13: BAD_VALUE if what is out of range.", this::badOfCommit);
    }

    private void graph() {
        sentence("14: Returns the sum told above, 0 to 7;", this::sumsOfDependency);
        sentence("14: NO_SUCH if one of them is not kept;", this::notKeptDependency);
        sentence("14: BAD_VALUE if both are the same.", this::sameDependency);
        sentence("15: 1 for the commit behind the transaction, 2 for the next one, and so on", this::indexesOfRing);
        sentence("15: NO_SUCH if there is no such slot, or if the slot is free;", this::nothingForRing);
        sentence("15: BAD_VALUE if index is not positive;", this::badIndexOfRing);
        sentence("15: NONE if there is no ring, or if it has not so many commits.", this::noRing);
        sentence("16: Returns the number of kept commits that are in a ring of kept commits.", this::inRings);
        sentence("17: each one comes behind all that must come before it", this::behindAll);
        sentence("17: and always the lowest number that is possible comes next.", this::lowestNext);
        sentence("17: 0 for the first commit", this::firstOfOrder);
        sentence("17: NONE if there is no such order, or if there are not so many commits;", this::noOrder);
        sentence("17: BAD_VALUE if index is negative.", this::badIndexOfOrder);
        sentence("18: Returns the number of pairs of kept commits that have a dependency with 4 on each other.",
            this::skews);
    }

    private void constraintsAndForecasts() {
        sentence("19: `constraint`: 0 to 2", this::constraintsOfHolds);
        sentence("19: Returns 1 if it holds with the values as of the latest commit, otherwise 0;", this::holdsOrNot);
        sentence("19: NO_SUCH if there is no such constraint.", this::noConstraintOfHolds);
        sentence("20: with the values as of its snapshot", this::holdsForSnapshot);
        sentence("20: and with what it wrote.", this::holdsForWrites);
        sentence("20: NO_SUCH if there is no such slot or constraint, or if the slot is free.", this::nothingToHold);
        sentence("21: if all open transactions were committed now, by ascending slots", this::bySlots);
        sentence("21: each one refused or not as it comes.", this::refusedAsItComes);
        sentence("21: Returns the number, 0 to 3.", this::numberThatWouldHold);
        sentence("forecasts; they change nothing", this::forecastsChangeNothing);
        sentence("22: Finds the lowest policy by which an open transaction would be refused if it was committed now.",
            this::lowestPolicy);
        sentence("22: NO_SUCH if there is no such slot, or if the slot is free;", this::nothingToRefuse);
        sentence("22: NONE if it would not be refused by any policy.", this::noPolicy);
    }

    private void countCommits() {
        due("none", x.count(0), 0);
        for (int number = 1; number <= 50; number++) {
            emptyCommits(1);
            due("count(0)", x.count(0), number);
        }
        play("b0 a0");
        due("behind an abort", x.count(0), 50);
    }

    private void countOpen() {
        due("none", x.count(1), 0);
        play("b0 b1 b2 b3 b4 b5 b6 b7");
        due("all", x.count(1), 8);
        play("c0 a7");
        due("two less", x.count(1), 6);
        play("w1a=1 w2a=1 c1");
        x.commit(2);
        due("one committed and one refused", x.count(1), 4);
    }

    private void countPolicy() {
        due("at first", x.count(2), 0);
        x.setPolicy(2);
        due("the highest", x.count(2), 2);
        x.setPolicy(0);
        due("the lowest", x.count(2), 0);
    }

    private void countKept() {
        due("none", x.count(3), 0);
        for (int number = 1; number <= 35; number++) {
            emptyCommits(1);
            due("kept of " + number, x.count(3), Math.min(number, 16));
        }
    }

    private void countRefused() {
        x.setPolicy(2);
        int[] counts = new int[3];
        for (int reason : new int[] {1, 1, 3, 2, 1, 3}) {
            play(BY_REASON[reason - 1]);
            due("commit(1)", x.commit(1), -reason);
            counts[reason - 1]++;
            for (int other = 1; other <= 3; other++) {
                due("count", x.count(3 + other), counts[other - 1]);
            }
            // So many commits that those of this round are kept no more.
            emptyCommits(16);
        }
        // Those of a schedule count, and those of a forecast do not.
        play(BY_REASON[0]);
        x.ifAllCommitted();
        x.refusedBy(1);
        x.of(1, 3);
        due("count(4) behind forecasts", x.count(4), 3);
        carry("c1");
        due("count(4) behind a schedule", x.count(4), 4);
    }

    private void countAborts() {
        due("none", x.count(7), 0);
        play("b0 a0 b1 w1a=1 a1");
        due("two", x.count(7), 2);
        due("an abort of a free slot", x.abort(1), NO_SUCH);
        play("b0 b1 w0a=1 w1a=1 c0");
        x.commit(1);
        due("a refused transaction is no abort", x.count(7), 2);
        carry("b0;a0;b0;a0");
        due("those of a schedule", x.count(7), 4);
    }

    private void badCount() {
        dueAt("count", x::count, new int[] {-1, 8}, BAD_VALUE);
        dueAt("count", x::count, FAR_OUT, BAD_VALUE);
        dueAt("count", x::count, new int[] {0, 7}, 0);
    }

    private void keysOfValue() {
        for (int key = 0; key <= 11; key++) {
            play("b0");
            x.write(0, key, key - 5);
            play("c0");
            for (int other = 0; other <= 11; other++) {
                due("value", x.value(other), other <= key ? other - 5 : 0);
            }
        }
    }

    private void valueAsOfLatest() {
        due("without commits", x.value(0), 0);
        play("b0 w0a=1");
        due("of an open transaction", x.value(0), 0);
        play("c0");
        due("as of 1", x.value(0), 1);
        play("b0 w0a=999 c0");
        due("as of 2", x.value(0), 999);
        play("b0 w0a=-999 w0a=0 c0");
        due("as of 3", x.value(0), 0);
        play("b0 w0a=-999 c0");
        emptyCommits(20);
        due("as of 24", x.value(0), -999);
    }

    private void noKeyOfValue() {
        dueAt("value", x::value, new int[] {-1, 12}, NO_SUCH);
        dueAt("value", x::value, FAR_OUT, NO_SUCH);
    }

    private void keysOfVersion() {
        for (int key = 0; key <= 11; key++) {
            play("b0");
            x.write(0, key, 0);
            play("c0");
            for (int other = 0; other <= 11; other++) {
                due("version", x.version(other), other <= key ? other + 1 : 0);
            }
        }
    }

    private void versionAsOfLatest() {
        due("without commits", x.version(0), 0);
        play("b1 b0 w0a=1");
        due("of an open transaction", x.version(0), 0);
        play("c0");
        due("as of 1", x.version(0), 1);
        play("r1a c1");
        due("as of 2", x.version(0), 1);
        emptyCommits(30);
        due("as of 32", x.version(0), 1);
        play("b0 w0a=1 c0");
        due("as of 33", x.version(0), 33);
    }

    private void noKeyOfVersion() {
        dueAt("version", x::version, new int[] {-1, 12}, NO_SUCH);
        dueAt("version", x::version, FAR_OUT, NO_SUCH);
    }

    private void slotsOfOf() {
        for (int slot = 0; slot <= 7; slot++) {
            due("of of a free slot", x.of(slot, 0), NO_SUCH);
            play("b" + slot);
            due("of", x.of(slot, 0), 0);
            x.write(slot, slot, 1);
        }
        for (int slot = 0; slot <= 7; slot++) {
            due("writes", x.of(slot, 2), 1 << slot);
        }
    }

    private void setsOfOf() {
        play("b0");
        for (int what = 0; what <= 3; what++) {
            due("of(0, " + what + ") of a new one", x.of(0, what), 0);
        }
        emptyCommits(17);
        play("b1 r1a r1l w1b=1 w1k=1");
        due("snapshot", x.of(1, 0), 17);
        due("reads", x.of(1, 1), 2049);
        due("writes", x.of(1, 2), 1026);
        for (int key = 0; key <= 11; key++) {
            x.read(0, key);
            x.write(0, key, 1);
        }
        due("snapshot", x.of(0, 0), 0);
        due("all reads", x.of(0, 1), 4095);
        due("all writes", x.of(0, 2), 4095);
    }

    private void reasonOfOf() {
        for (int reason = 1; reason <= 3; reason++) {
            for (int policy = 0; policy <= 2; policy++) {
                fresh(BY_REASON[reason - 1]);
                x.setPolicy(policy);
                int want = policy >= reason - 1 ? reason : 0;
                due("of(1, 3)", x.of(1, 3), want);
                due("of(1, 3) again", x.of(1, 3), want);
                due("count(1)", x.count(1), 1);
                due("count(3 + reason)", x.count(3 + reason), 0);
                due("commit(1)", x.commit(1), want == 0 ? x.count(0) : -want);
            }
        }
    }

    private void noReasonOfOf() {
        for (int policy = 0; policy <= 2; policy++) {
            fresh("b0 r0a w0a=1");
            x.setPolicy(policy);
            due("without commits", x.of(0, 3), 0);
            emptyCommits(20);
            due("behind 20 commits", x.of(0, 3), 0);
            play("b1 r1b w1b=1 c1");
            due("behind a commit of other keys", x.of(0, 3), 0);
        }
    }

    private void nothingForOf() {
        play("b0 b3 c3 b4 a4");
        for (int what = -1; what <= 4; what++) {
            int asked = what;
            dueAt("of slot", slot -> x.of(slot, asked), new int[] {-1, 8, 32, 1, 3, 4, 7}, NO_SUCH);
            dueAt("of slot", slot -> x.of(slot, asked), FAR_OUT, NO_SUCH);
        }
    }

    private void badOf() {
        play("b0 b7");
        for (int slot = 0; slot <= 7; slot += 7) {
            int asked = slot;
            dueAt("of what", what -> x.of(asked, what), new int[] {-1, 4}, BAD_VALUE);
            dueAt("of what", what -> x.of(asked, what), FAR_OUT, BAD_VALUE);
        }
    }

    private void keptOfCommit() {
        for (int number : new int[] {1, 2, 15, 16, 17, 18, 31, 32, 33}) {
            x = new SnapshotRings();
            for (int i = 1; i <= number; i++) {
                play("b0 r0" + (char) ('a' + i % 12) + " c0");
            }
            for (int kept = Math.max(1, number - 15); kept <= number; kept++) {
                due("ofCommit(" + kept + ", 0)", x.ofCommit(kept, 0), kept - 1);
                due("ofCommit(" + kept + ", 1)", x.ofCommit(kept, 1), 1 << kept % 12);
            }
            due("one that is not kept", x.ofCommit(number - 16, 1), NO_SUCH);
            due("one that is not there", x.ofCommit(number + 1, 1), NO_SUCH);
        }
    }

    private void setsOfCommit() {
        play("b0 c0 b0 r0a r0b w0b=1 w0c=1 r0c c0 b1 b0 c0 c1");
        int[][] want = {{0, 0, 0}, {1, 3, 6}, {2, 0, 0}, {2, 0, 0}};
        for (int commit = 1; commit <= 4; commit++) {
            for (int what = 0; what <= 2; what++) {
                due("ofCommit(" + commit + ", " + what + ")", x.ofCommit(commit, what), want[commit - 1][what]);
            }
        }
    }

    private void noSuchCommit() {
        for (int what = -1; what <= 3; what++) {
            due("without commits", x.ofCommit(1, what), NO_SUCH);
        }
        emptyCommits(16);
        due("the oldest of 16", x.ofCommit(1, 0), 0);
        due("the latest of 16", x.ofCommit(16, 0), 15);
        emptyCommits(1);
        due("the oldest of 17", x.ofCommit(2, 0), 1);
        due("the latest of 17", x.ofCommit(17, 0), 16);
        for (int what = -1; what <= 3; what++) {
            int asked = what;
            dueAt("ofCommit", commit -> x.ofCommit(commit, asked), new int[] {-1, 0, 1, 18, 33}, NO_SUCH);
            dueAt("ofCommit", commit -> x.ofCommit(commit, asked), FAR_OUT, NO_SUCH);
        }
    }

    /** Each number of 40 commits, of which 24 are not kept any more. */
    private void eachOldCommit() {
        emptyCommits(40);
        for (int commit = 1; commit <= 40; commit++) {
            boolean kept = commit >= 25;
            due("ofCommit(" + commit + ", 0)", x.ofCommit(commit, 0), kept ? commit - 1 : NO_SUCH);
            int other = commit == 40 ? 39 : 40;
            due("dependency of " + commit, x.dependency(commit, other), kept ? 0 : NO_SUCH);
            due("dependency on " + commit, x.dependency(other, commit), kept ? 0 : NO_SUCH);
            due("dependency on itself", x.dependency(commit, commit), kept ? BAD_VALUE : NO_SUCH);
        }
    }

    private void badOfCommit() {
        emptyCommits(17);
        for (int commit = 2; commit <= 17; commit += 15) {
            int asked = commit;
            dueAt("ofCommit what", what -> x.ofCommit(asked, what), new int[] {-1, 3, 4}, BAD_VALUE);
            dueAt("ofCommit what", what -> x.ofCommit(asked, what), FAR_OUT, BAD_VALUE);
        }
    }

    private void sumsOfDependency() {
        play("b0 r0a w0b=1 w0c=1 c0 b0 r0b w0a=1 w0c=1 c0 b0 c0");
        due("the greatest", x.dependency(1, 2), 7);
        due("the other way round", x.dependency(2, 1), 0);
        due("the least", x.dependency(1, 3), 0);
        // A later one that must come before an earlier one has 4 alone.
        fresh("b0 b1 r0a r1b w0b=1 w0c=1 w1a=1 w1c=1 c0");
        due("refused", x.commit(1), -1);
        fresh("b0 b1 r0a r1b w0b=1 w1a=1 c0 c1");
        due("dependency(1, 2)", x.dependency(1, 2), 4);
        due("dependency(2, 1)", x.dependency(2, 1), 4);
    }

    private void notKeptDependency() {
        due("without commits", x.dependency(1, 2), NO_SUCH);
        emptyCommits(16);
        due("dependency(1, 16)", x.dependency(1, 16), 0);
        due("dependency(16, 1)", x.dependency(16, 1), 0);
        emptyCommits(1);
        int[] outside = {-1, 0, 1, 18, 33};
        for (int kept = 2; kept <= 17; kept += 15) {
            int other = kept;
            dueAt("dependency on " + kept, a -> x.dependency(a, other), outside, NO_SUCH);
            dueAt("dependency of " + kept, b -> x.dependency(other, b), outside, NO_SUCH);
            dueAt("dependency on " + kept, a -> x.dependency(a, other), FAR_OUT, NO_SUCH);
            dueAt("dependency of " + kept, b -> x.dependency(other, b), FAR_OUT, NO_SUCH);
        }
        dueAt("dependency on itself", a -> x.dependency(a, a), outside, NO_SUCH);
        due("dependency(2, 17)", x.dependency(2, 17), 0);
    }

    private void sameDependency() {
        for (int number = 1; number <= 20; number++) {
            play("b0 r0a w0a=1 c0");
            due("the latest", x.dependency(number, number), BAD_VALUE);
        }
        for (int number = 5; number <= 20; number++) {
            due("a kept one", x.dependency(number, number), BAD_VALUE);
        }
        due("one that is not kept", x.dependency(4, 4), NO_SUCH);
    }

    private void indexesOfRing() {
        fresh(TRIANGLE + " c0 c1");
        due("ringOf(2, 1)", x.ringOf(2, 1), 1);
        due("ringOf(2, 2)", x.ringOf(2, 2), 2);
        fresh(SKEW);
        emptyCommits(20);
        play("c0");
        due("ringOf(1, 1)", x.ringOf(1, 1), 21);
        // The highest slot.
        fresh("b7 b6 r7a r6b w7b=1 w6a=1 c6");
        due("ringOf(7, 1)", x.ringOf(7, 1), 1);
        // The same in each policy, and for one that would be refused by the reason 1.
        for (int policy = 0; policy <= 2; policy++) {
            fresh("b0 r0a w0a=1 b1 w1a=1 c1");
            x.setPolicy(policy);
            due("of(0, 3)", x.of(0, 3), 1);
            due("ringOf(0, 1)", x.ringOf(0, 1), 1);
        }
    }

    private void nothingForRing() {
        play(SKEW + " b3 c3 b4 a4 c0");
        for (int index = -1; index <= 2; index++) {
            int asked = index;
            dueAt("ringOf slot", slot -> x.ringOf(slot, asked), new int[] {-1, 8, 33, 0, 3, 4, 7}, NO_SUCH);
            dueAt("ringOf slot", slot -> x.ringOf(slot, asked), FAR_OUT, NO_SUCH);
        }
        due("the slot that has one", x.ringOf(1, 1), 2);
    }

    private void badIndexOfRing() {
        play(SKEW + " c0 b2");
        for (int slot = 1; slot <= 2; slot++) {
            int asked = slot;
            dueAt("ringOf index", index -> x.ringOf(asked, index), new int[] {0, -1, -2, Integer.MIN_VALUE}, BAD_VALUE);
        }
    }

    private void noRing() {
        int[] indexes = {1, 2, 16, 17, 18, Integer.MAX_VALUE};
        play("b0 r0a w0a=1");
        dueAt("ringOf without commits", index -> x.ringOf(0, index), indexes, NONE);
        emptyCommits(16);
        dueAt("ringOf without a ring", index -> x.ringOf(0, index), indexes, NONE);
        play("b1 w1a=1 c1");
        due("ringOf(0, 1)", x.ringOf(0, 1), 17);
        int[] behind = {2, 3, 16, 17, 18, 1 << 30, Integer.MAX_VALUE};
        dueAt("ringOf behind its ring", index -> x.ringOf(0, index), behind, NONE);
        // A ring that another transaction had is none of this one.
        play("b2");
        dueAt("ringOf of another", index -> x.ringOf(2, index), indexes, NONE);
    }

    private void inRings() {
        due("without commits", x.inRings(), 0);
        play("b0 r0a w0a=1 c0");
        due("one commit", x.inRings(), 0);
        x = new SnapshotRings();
        for (int pairs = 1; pairs <= 8; pairs++) {
            play(SKEW + " c0 c1");
            due("pairs " + pairs, x.inRings(), 2 * pairs);
        }
        // One of the oldest pair is not kept any more, and the other one is in no ring then.
        emptyCommits(1);
        due("behind 17", x.inRings(), 14);
        emptyCommits(1);
        due("behind 18", x.inRings(), 14);
        emptyCommits(1);
        due("behind 19", x.inRings(), 12);
        // One that is behind a ring, and one that is ahead of it, are in none; open ones do not count.
        fresh("b5 r5a " + SKEW + " c0 c1 b2 r2a c2 c5 " + SKEW + " c0");
        due("a ring of two among five", x.inRings(), 2);
        // A ring that undo takes away counts no more.
        fresh(SKEW + " c0 c1");
        due("ahead of undo", x.inRings(), 2);
        x.undo();
        due("behind undo", x.inRings(), 0);
        // One commit in two rings counts once.
        fresh("b0 b1 b2 r0a r0b w0c=1 r1c w1a=1 r2c w2b=1 c0 c1 c2");
        due("two rings with a common commit", x.inRings(), 3);
    }

    private void behindAll() {
        // The commit 4 must come before 2 and 3, and both of them before 1.
        fresh("b0 r0a r0b b1 w1a=1 r1c b2 w2b=1 r2c b3 w3c=1 c3 c1 c2 c0");
        due("dependency(4, 2)", x.dependency(4, 2), 4);
        due("dependency(4, 3)", x.dependency(4, 3), 4);
        due("dependency(2, 1)", x.dependency(2, 1), 4);
        due("dependency(3, 1)", x.dependency(3, 1), 4);
        dueOrder(4, 2, 3, 1);
        // In full reverse: each of eight reads what the one before it in number writes.
        x = new SnapshotRings();
        play("b0 b1 b2 b3 b4 b5 b6 b7");
        for (int slot = 0; slot <= 7; slot++) {
            x.write(slot, slot, 1);
            x.read(slot, slot == 0 ? 8 : slot - 1);
        }
        play("c0 c1 c2 c3 c4 c5 c6 c7");
        dueOrder(8, 7, 6, 5, 4, 3, 2, 1);
    }

    private void lowestNext() {
        emptyCommits(5);
        dueOrder(1, 2, 3, 4, 5);
        // 1 becomes possible behind 4, and comes ahead of 5.
        fresh("b0 r0a b1 w1a=1 c1 b1 c1 b1 c1 c0 b1 c1");
        dueOrder(2, 3, 4, 1, 5);
        // The numbers go on behind 16, and the rows of the kept commits wrap around.
        x = new SnapshotRings();
        emptyCommits(20);
        dueOrder(5, 6, 7, 8, 9, 10, 11, 12, 13, 14, 15, 16, 17, 18, 19, 20);
        play("b0 r0a b1 w1a=1 c1 c0");
        dueOrder(7, 8, 9, 10, 11, 12, 13, 14, 15, 16, 17, 18, 19, 20, 22, 21);
    }

    private void firstOfOrder() {
        play("b0 c0");
        due("orderAt(0)", x.orderAt(0), 1);
        play("b0 r0a b1 w1a=1 c1 c0");
        due("orderAt(0)", x.orderAt(0), 1);
        due("orderAt(1)", x.orderAt(1), 3);
        due("orderAt(2)", x.orderAt(2), 2);
        emptyCommits(14);
        due("orderAt(0) of 17", x.orderAt(0), 3);
        due("orderAt(15) of 17", x.orderAt(15), 17);
    }

    private void noOrder() {
        int[] indexes = {0, 1, 15, 16, 17, 1 << 30, Integer.MAX_VALUE};
        dueAt("orderAt without commits", x::orderAt, indexes, NONE);
        for (int number = 1; number <= 18; number++) {
            emptyCommits(1);
            int kept = Math.min(number, 16);
            due("the last", x.orderAt(kept - 1), number);
            due("behind the last", x.orderAt(kept), NONE);
        }
        dueAt("orderAt behind 16", x::orderAt, new int[] {16, 17, Integer.MAX_VALUE}, NONE);
        // A ring of two leaves no order, of the others neither.
        fresh("b2 c2 " + SKEW + " c0 c1 b2 c2");
        dueAt("orderAt with a ring", x::orderAt, indexes, NONE);
        fresh(TRIANGLE + " c0 c1 c2");
        dueAt("orderAt with a ring of three", x::orderAt, indexes, NONE);
    }

    private void badIndexOfOrder() {
        int[] indexes = {-1, -2, -16, Integer.MIN_VALUE};
        dueAt("orderAt without commits", x::orderAt, indexes, BAD_VALUE);
        emptyCommits(17);
        dueAt("orderAt", x::orderAt, indexes, BAD_VALUE);
    }

    private void skews() {
        due("without commits", x.skews(), 0);
        fresh(SKEW + " c0");
        due("one of two", x.skews(), 0);
        play("c1");
        due("a pair", x.skews(), 1);
        fresh(CHAIN + " c0 c1 c2");
        due("dependencies one way alone", x.skews(), 0);
        fresh(TRIANGLE + " c0 c1 c2");
        due("a ring of three", x.skews(), 0);
        // A ring of two by 4 in one way and 2 in the other: the commit 2 read a of 1, and 1 missed b of 2.
        fresh("b0 r0b w0a=1 c0 b1 r1a w1b=1 c1");
        due("4 one way alone", x.skews(), 0);
        // Sixteen commits, each of which is open together with the seven before it and behind it.
        x = new SnapshotRings();
        for (int i = 0; i < 16; i++) {
            skewedStart(i % 8);
            if (i >= 7) {
                play("c" + (i - 7) % 8);
            }
        }
        for (int i = 9; i < 16; i++) {
            play("c" + i % 8);
        }
        due("count(0)", x.count(0), 16);
        due("pairs of 16", x.skews(), 84);
        emptyCommits(1);
        due("pairs of 15 of them", x.skews(), 77);
    }

    /** A transaction that reads the keys 0 to 7 and writes the key of its slot. */
    private void skewedStart(int slot) {
        play("b" + slot);
        for (int key = 0; key < 8; key++) {
            x.read(slot, key);
        }
        x.write(slot, slot, 1);
    }

    private void constraintsOfHolds() {
        for (int constraint = 0; constraint <= 2; constraint++) {
            due("at first", x.holds(constraint), 1);
            x.setConstraint(constraint, 0, 1);
            due("not any more", x.holds(constraint), 0);
        }
    }

    private void holdsOrNot() {
        x.setConstraint(0, 2049, 10);
        due("with 0", x.holds(0), 0);
        play("b0 w0a=3 w0l=7");
        due("with an open transaction", x.holds(0), 0);
        play("c0 b0 b1");
        due("with 10", x.holds(0), 1);
        play("w1a=2 w1k=99 c1");
        due("with 9", x.holds(0), 0);
        due("for one that began before", x.holdsFor(0, 0), 1);
        play("w0a=999 a0");
        due("behind an abort", x.holds(0), 0);
        x.undo();
        x.undo();
        due("behind undo", x.holds(0), 0);
    }

    private void noConstraintOfHolds() {
        dueAt("holds", x::holds, new int[] {-1, 3}, NO_SUCH);
        dueAt("holds", x::holds, FAR_OUT, NO_SUCH);
    }

    private void holdsForSnapshot() {
        x.setConstraint(0, 1, 5);
        play("b0 b7 w7a=5 c7 b1 b7 w7a=4 c7 b2");
        due("as of 0", x.holdsFor(0, 0), 0);
        due("as of 1", x.holdsFor(1, 0), 1);
        due("as of 2", x.holdsFor(2, 0), 0);
        for (int i = 0; i < 20; i++) {
            play("b7 w7a=" + (i % 2 == 0 ? 6 : 3) + " c7");
        }
        due("as of 0", x.holdsFor(0, 0), 0);
        due("as of 1 behind 20 more", x.holdsFor(1, 0), 1);
        due("as of the latest", x.holds(0), 0);
    }

    private void holdsForWrites() {
        x.setConstraint(2, 2049, 5);
        play("b0 b1");
        due("nothing written", x.holdsFor(0, 2), 0);
        play("w0a=2 w0l=3");
        due("with 5", x.holdsFor(0, 2), 1);
        due("for another", x.holdsFor(1, 2), 0);
        due("as of the latest commit", x.holds(2), 0);
        play("w0l=2");
        due("with 4", x.holdsFor(0, 2), 0);
        play("w0l=999 w0b=-999");
        due("with other keys", x.holdsFor(0, 2), 1);
        play("r0a w0a=-994");
        due("with 5 again", x.holdsFor(0, 2), 1);
        play("w0a=-995");
        due("with 4 again", x.holdsFor(0, 2), 0);
    }

    private void nothingToHold() {
        play("b0 b7 b3 c3 b4 a4");
        for (int constraint = -1; constraint <= 3; constraint++) {
            int asked = constraint;
            dueAt("holdsFor slot", slot -> x.holdsFor(slot, asked), new int[] {-1, 8, 32, 1, 3, 4, 6}, NO_SUCH);
            dueAt("holdsFor slot", slot -> x.holdsFor(slot, asked), FAR_OUT, NO_SUCH);
        }
        dueAt("holdsFor constraint", constraint -> x.holdsFor(0, constraint), new int[] {-1, 3}, NO_SUCH);
        dueAt("holdsFor constraint", constraint -> x.holdsFor(7, constraint), FAR_OUT, NO_SUCH);
        dueAt("holdsFor", constraint -> x.holdsFor(7, constraint), new int[] {0, 1, 2}, 1);
    }

    private void bySlots() {
        x.setConstraint(0, 1, 1);
        due("no transaction", x.ifAllCommitted(), 2);
        // Of those that write the same key the lowest slot is committed, whichever began first.
        play("b7 b3 b5 w7a=2 w3a=-2 w5a=3");
        due("the slot 3 is the first", x.ifAllCommitted(), 2);
        play("b0 w0a=1");
        due("the slot 0 is the first", x.ifAllCommitted(), 3);
        play("a0 a3 a5");
        due("the slot 7 is the only one", x.ifAllCommitted(), 3);
        // All eight, each one with its own key.
        x = new SnapshotRings();
        x.setConstraint(0, 255, 8);
        x.setConstraint(1, 255, 9);
        for (int slot = 0; slot <= 7; slot++) {
            play("b" + slot);
            x.write(slot, slot, 1);
            due("all so far", x.ifAllCommitted(), slot == 7 ? 2 : 1);
        }
    }

    private void refusedAsItComes() {
        for (int policy = 0; policy <= 2; policy++) {
            // The second one of a skew is refused by the first one, that would be committed.
            fresh(SKEW);
            x.setPolicy(policy);
            x.setConstraint(0, 3, -1);
            due("a skew", x.ifAllCommitted(), policy == 0 ? 2 : 3);
            fresh(CHAIN);
            x.setPolicy(policy);
            x.setConstraint(0, 2, 1);
            due("a chain", x.ifAllCommitted(), policy == 2 ? 2 : 3);
        }
        // With 16 kept commits the slot 1 is in a ring with the oldest, unless one comes before it.
        for (int ahead = 0; ahead <= 1; ahead++) {
            fresh("b1 b2 r1a w1b=1 r2b w2a=1 c2");
            emptyCommits(15);
            x.setPolicy(1);
            x.setConstraint(0, 2, 1);
            play(ahead == 1 ? "b0" : "b2");
            due("with the oldest", x.of(1, 3), 2);
            due("ifAllCommitted", x.ifAllCommitted(), ahead == 1 ? 3 : 2);
        }
    }

    private void numberThatWouldHold() {
        due("all three at first", x.ifAllCommitted(), 3);
        for (int constraint = 0; constraint <= 2; constraint++) {
            x.setConstraint(constraint, 0, 1);
            due("less", x.ifAllCommitted(), 2 - constraint);
        }
        for (int constraint = 0; constraint <= 2; constraint++) {
            x.setConstraint(constraint, 1, 5);
        }
        play("b0 w0a=4");
        due("none", x.ifAllCommitted(), 0);
        play("w0a=5");
        due("all three", x.ifAllCommitted(), 3);
    }

    private void forecastsChangeNothing() {
        fresh(SKEW);
        x.setPolicy(2);
        x.setConstraint(0, 3, 0);
        long before = x.digest();
        for (int i = 0; i < 3; i++) {
            x.ifAllCommitted();
            x.refusedBy(0);
            x.refusedBy(1);
            due("digest", x.digest(), before);
        }
        due("commit(0)", x.commit(0), 1);
        before = x.digest();
        x.ifAllCommitted();
        x.refusedBy(1);
        due("digest", x.digest(), before);
        due("undo", x.undo(), 5);
        due("read(0, 0)", x.read(0, 0), -1);
        due("of(0, 1)", x.of(0, 1), 3);
    }

    private void lowestPolicy() {
        for (int reason = 1; reason <= 3; reason++) {
            for (int policy = 0; policy <= 2; policy++) {
                fresh(BY_REASON[reason - 1]);
                x.setPolicy(policy);
                due("refusedBy(1)", x.refusedBy(1), reason - 1);
                due("count(2)", x.count(2), policy);
                due("count(1)", x.count(1), 1);
            }
        }
        // All reasons apply: the policy 0 refuses it already; the reasons 2 and 3: the policy 1.
        fresh(SKEW + " w1a=1 c0");
        due("refusedBy(1) with all", x.refusedBy(1), 0);
        fresh(SKEW + " c0");
        due("refusedBy(1) with 2 and 3", x.refusedBy(1), 1);
    }

    private void nothingToRefuse() {
        play("b0 b3 c3 b4 a4");
        dueAt("refusedBy", x::refusedBy, new int[] {-1, 8, 32, 1, 3, 4, 7}, NO_SUCH);
        dueAt("refusedBy", x::refusedBy, FAR_OUT, NO_SUCH);
    }

    private void noPolicy() {
        for (int policy = 0; policy <= 2; policy++) {
            fresh("b0 b7");
            x.setPolicy(policy);
            due("a new one", x.refusedBy(0), NONE);
            due("the last slot", x.refusedBy(7), NONE);
            play("r0a w0a=1");
            play("b1 r1b w1b=1 c1");
            due("with other keys", x.refusedBy(0), NONE);
        }
        fresh(SKEW);
        due("two open ones", x.refusedBy(0), NONE);
    }
}
