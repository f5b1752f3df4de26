/** The boundary sentences of 'Terms': commits and their refusals, constraints, the text. */
public final class TermsOfCommitsTest extends Bench {
    public static void main(String[] args) {
        TermsOfCommitsTest test = new TermsOfCommitsTest();
        test.commits();
        test.constraints();
        test.schedules();
        test.end();
    }

    private void commits() {
        sentence("A transaction is refused by the first of these reasons that applies", this::firstReason);
        sentence("(the kept commits are those ahead of it, also if the oldest one is not kept any more behind it)",
            this::oldestCounts);
        sentence("1: a key that it wrote has a version, as of the latest commit, that is greater than its snapshot.",
            this::reason1);
        sentence("2: (only in the policies 1 and 2) there is a ring of it among the kept commits.", this::reason2);
        sentence("3: (only in the policy 2) it, or a kept commit, would be a pivot", this::reason3);
        sentence("one commit has a dependency with 4 on it, and it has a dependency with 4 on a commit",
            this::bothDependenciesOfPivot);
        sentence("which can be the same one", this::pivotBetweenOneCommit);
        sentence("where at least one of these three commits is this transaction.", this::pivotOfKeptCommits);
        sentence("A transaction that is refused is gone, and its slot is free.", this::refusedIsGone);
        sentence("Otherwise it is committed, and its slot is free.", this::committedSlotIsFree);
        sentence("A transaction that wrote nothing is committed, too, and gets a number.", this::wroteNothing);
    }

    private void constraints() {
        sentence("There are 3 constraints, 0 to 2;", this::threeConstraints);
        sentence("each one has a set of keys, told as a bit mask", this::setsOfKeys);
        sentence("and a least sum, -9999 to 9999;", this::leastSums);
        sentence("at first a constraint has no keys and the least sum 0.", this::constraintsAtFirst);
        sentence("A constraint holds if the sum of the values of its keys is at least its least sum.", this::atLeast);
    }

    private void schedules() {
        sentence("There is a text of at most 80 characters", this::atMost80);
        sentence("which is empty initially.", this::emptyInitially);
        sentence("A schedule is a text of the form step { \";\" step }", this::stepsOfSchedule);
        sentence("where a step is \"b\" slot (begin), \"r\" slot key (read), \"w\" slot key \"=\" value (write), "
            + "\"c\" slot (commit) or \"a\" slot (abort).", this::formsOfSteps);
        sentence("A slot is a digit from 0 to 7", this::slotsOfSteps);
        sentence("a key is a letter from \"a\" to \"l\" for the keys 0 to 11", this::keysOfSteps);
        sentence("and a value is a number with 1 to 3 digits", this::digitsOfValues);
        sentence("before which there can be \"-\";", this::minusOfValues);
        sentence("leading zeros are allowed.", this::leadingZeros);
    }

    private void policy(int policy) {
        x.setPolicy(policy);
    }

    private void firstReason() {
        // All three apply: the slot 1 has a key that was overwritten, is in a ring, and is a pivot.
        fresh(SKEW + " w1a=4 c0");
        policy(2);
        due("of(1, 3) if all apply", x.of(1, 3), 1);
        due("commit(1) if all apply", x.commit(1), -1);
        due("count(4)", x.count(4), 1);
        due("count(5)", x.count(5), 0);
        due("count(6)", x.count(6), 0);
        fresh(SKEW + " c0");
        policy(2);
        due("of(1, 3) if 2 and 3 apply", x.of(1, 3), 2);
        due("commit(1) if 2 and 3 apply", x.commit(1), -2);
        due("count(4)", x.count(4), 0);
        due("count(5)", x.count(5), 1);
        due("count(6)", x.count(6), 0);
        fresh(CHAIN + " c0 c1");
        policy(2);
        due("commit(2) if 3 applies", x.commit(2), -3);
        due("count(4)", x.count(4), 0);
        due("count(5)", x.count(5), 0);
        due("count(6)", x.count(6), 1);
        // The reasons 1 and 3 without 2: the reason 1 is told.
        fresh(CHAIN + " w2d=1 b3 w3d=1 c3 c0 c1");
        policy(2);
        due("commit(2) if 1 and 3 apply", x.commit(2), -1);
    }

    private void oldestCounts() {
        for (int kept = 15; kept <= 17; kept++) {
            fresh("b0 b1 r0a w0b=1 r1b w1a=1 c1");
            policy(1);
            emptyCommits(kept - 1);
            due("reason 2 with " + kept, x.of(0, 3), kept <= 16 ? 2 : 0);
            due("commit with " + kept, x.commit(0), kept <= 16 ? -2 : 18);
            fresh(CHAIN + " c0");
            policy(2);
            emptyCommits(kept - 2);
            play("c1");
            due("reason 3 with " + kept, x.of(2, 3), kept <= 16 ? 3 : 0);
            due("commit with " + kept, x.commit(2), kept <= 16 ? -3 : 18);
        }
        // Behind the commit that closed it, the ring has gone with its oldest commit.
        fresh("b0 b1 r0a w0b=1 r1b w1a=1 c1");
        emptyCommits(15);
        dueRing(0, 1);
        play("c0");
        due("inRings", x.inRings(), 0);
        due("orderAt(0)", x.orderAt(0), 2);
    }

    private void reason1() {
        for (int policy = 0; policy <= 2; policy++) {
            // The version is equal to the snapshot, and greater by one.
            fresh("b7 w7a=1 c7 b0 w0a=2");
            policy(policy);
            due("version equal to the snapshot", x.commit(0), 2);
            fresh("b0 w0a=2 b7 w7a=1 c7");
            policy(policy);
            due("version greater by one", x.commit(0), -1);
            fresh("b7 c7 b0 w0a=2 b7 w7b=1 c7");
            policy(policy);
            due("a version of another key", x.commit(0), 3);
            fresh("b0 w0l=2 b7 w7l=1 c7");
            policy(policy);
            emptyCommits(20);
            due("a writer that is not kept any more", x.commit(0), -1);
            due("count(0)", x.count(0), 21);
        }
        // A key that it read alone has a greater version.
        fresh("b0 r0a w0b=1 b7 w7a=1 c7");
        due("a key that it only read", x.commit(0), 2);
        // The first and the last one of its keys.
        fresh("b0 w0a=1 w0l=1 b1 w1a=1 w1l=1 b7 w7l=1 c7");
        due("the last one of its keys", x.commit(0), -1);
        fresh("b0 w0a=1 w0l=1 b1 w1a=1 w1l=1 b7 w7a=1 c7");
        due("the first one of its keys", x.commit(1), -1);
        // What others have written, but not committed.
        fresh("b0 w0a=1 b1 w1a=1 b2 w2a=1 a1");
        due("no commit wrote it", x.commit(0), 1);
        due("a commit wrote it", x.commit(2), -1);
        due("value(0)", x.value(0), 1);
    }

    private void reason2() {
        for (int policy = 0; policy <= 2; policy++) {
            fresh(SKEW + " c0");
            policy(policy);
            due("ring of two", x.commit(1), policy == 0 ? 2 : -2);
            fresh(TRIANGLE + " c2 c1");
            policy(policy);
            due("ring of three", x.commit(0), policy == 0 ? 3 : -2);
            // The ring of others is none of it.
            fresh(SKEW + " c0 c1 b2 r2c w2d=1");
            policy(policy);
            due("no ring of its own", x.commit(2), 3);
        }
        // A transaction that writes nothing can be in a ring: it read what 2 wrote, which 1 did not see.
        for (int policy = 0; policy <= 2; policy++) {
            fresh("b0 r0a w0b=1 b7 w7a=1 c7 b1 r1a r1b c0");
            policy(policy);
            dueRing(1, 2, 1);
            due("ring of one that wrote nothing", x.commit(1), policy == 0 ? 3 : -2);
        }
    }

    private void reason3() {
        String[] orders = {"c0 c1 c2", "c0 c2 c1", "c1 c0 c2", "c1 c2 c0", "c2 c0 c1", "c2 c1 c0"};
        for (String order : orders) {
            for (int policy = 0; policy <= 2; policy++) {
                fresh(CHAIN);
                policy(policy);
                play(order.substring(0, 5));
                due("last of " + order, step(order.substring(6)), policy == 2 ? -3 : 3);
            }
        }
    }

    private void bothDependenciesOfPivot() {
        String[] alone = {
            // One dependency with 4.
            "b0 b1 r0a w1a=1 c0 c1", "b0 b1 r0a w1a=1 c1 c0",
            // Two from one commit, and two on one commit.
            "b0 b1 b2 r0a r0b w1a=1 w2b=1 c1 c2 c0", "b0 b1 b2 r0a r0b w1a=1 w2b=1 c0 c1 c2",
            "b0 b1 b2 r0a r1a w2a=1 c0 c1 c2", "b0 b1 b2 r0a r1a w2a=1 c2 c1 c0",
            // One with 4 and one with 2, and one with 1, on each side of the one between.
            "b0 w0a=1 c0 b1 r1a r1b b2 w2b=1 c2 c1", "b1 w1a=1 b2 r2b w1b=1 c1 b3 r3a c3 c2",
            "b0 w0a=1 c0 b1 w1a=1 r1b b2 w2b=1 c2 c1", "b0 r0b b1 w1b=1 w1a=1 c1 b2 w2a=1 c2 c0"};
        for (String steps : alone) {
            x = new SnapshotRings();
            policy(2);
            play(steps);
            due("commits of " + steps, x.count(0), steps.split("c").length - 1);
        }
        // A dependency that has 4 in a sum with 1 and 2 is one with 4.
        fresh("b5 r5c b0 w0a=1 w0c=1 r0b c0 b1 r1a w1b=1 w1a=2");
        policy(2);
        due("a sum with 4", x.of(1, 3), 0);
        play("c5");
        due("behind the commit of slot 5", x.of(1, 3), 3);
        due("commit(1)", x.commit(1), -3);
    }

    private void pivotBetweenOneCommit() {
        // Then both are in a ring of two, which is the reason before.
        fresh(SKEW + " c0");
        policy(2);
        due("commit(1)", x.commit(1), -2);
        // The two of a kept skew are pivots; a transaction that one of them is ahead of is refused.
        fresh(SKEW + " b2 r1c w2c=1 c0 c1");
        policy(2);
        due("a third behind two", x.commit(2), -3);
        fresh(SKEW + " b2 r2a w2d=1 c0 c1");
        policy(2);
        due("a third ahead of two", x.commit(2), -3);
    }

    private void pivotOfKeptCommits() {
        fresh(CHAIN + " c0 c1 c2 b3 r3a r3b r3c w3d=1");
        policy(2);
        due("three kept commits", x.commit(3), 4);
        // It has a dependency with 4 on a commit that is no pivot, and others are pivots.
        fresh(CHAIN + " b3 r3d b4 w4d=1 c4 c0 c1 c2");
        policy(2);
        due("not one of the three", x.commit(3), 5);
        // A kept commit has a dependency with 4 on it, and others are pivots.
        fresh(CHAIN + " b3 w3d=1 b4 r4d c4 c0 c1 c2");
        policy(2);
        due("not one of the three", x.commit(3), 5);
    }

    private void refusedIsGone() {
        String[] refused = {"b0 b1 r1b w0a=1 w1a=2 c0", SKEW + " c0", "b2 r2a b0 w0b=1 b1 r1b w1a=1 c2 c0"};
        for (int reason = 1; reason <= 3; reason++) {
            fresh(refused[reason - 1]);
            policy(2);
            int commits = x.count(0);
            int value = x.value(0);
            due("commit(1)", x.commit(1), -reason);
            due("of(1, 0)", x.of(1, 0), NO_SUCH);
            due("commit(1) again", x.commit(1), NO_SUCH);
            due("abort(1)", x.abort(1), NO_SUCH);
            due("count(0)", x.count(0), commits);
            due("count(1)", x.count(1), 0);
            due("count(3)", x.count(3), commits);
            due("count(3 + reason)", x.count(3 + reason), 1);
            due("count(7)", x.count(7), 0);
            due("value(0)", x.value(0), value);
            due("ofCommit", x.ofCommit(commits + 1, 0), NO_SUCH);
            due("begin(1)", x.begin(1), commits);
            due("of(1, 1)", x.of(1, 1), 0);
            due("of(1, 2)", x.of(1, 2), 0);
            due("commit(1)", x.commit(1), commits + 1);
        }
    }

    private void committedSlotIsFree() {
        play("b1 w1a=1");
        due("commit(1)", x.commit(1), 1);
        due("of(1, 0)", x.of(1, 0), NO_SUCH);
        due("commit(1) again", x.commit(1), NO_SUCH);
        due("count(1)", x.count(1), 0);
        due("begin(1)", x.begin(1), 1);
        due("of(1, 2)", x.of(1, 2), 0);
    }

    private void wroteNothing() {
        for (int policy = 0; policy <= 2; policy++) {
            x = new SnapshotRings();
            policy(policy);
            play("b0");
            due("neither read nor wrote", x.commit(0), 1);
            play("b0 r0a r0b");
            due("read alone", x.commit(0), 2);
            due("count(0)", x.count(0), 2);
            due("count(3)", x.count(3), 2);
            due("ofCommit(1, 1)", x.ofCommit(1, 1), 0);
            due("ofCommit(2, 1)", x.ofCommit(2, 1), 3);
            due("ofCommit(2, 2)", x.ofCommit(2, 2), 0);
            due("begin", x.begin(0), 2);
            dueOrder(1, 2);
        }
    }

    private void threeConstraints() {
        for (int constraint = 0; constraint <= 2; constraint++) {
            due("setConstraint", x.setConstraint(constraint, 1 << constraint, constraint + 1), 0);
        }
        play("b0 w0b=2");
        for (int constraint = 0; constraint <= 2; constraint++) {
            due("holds", x.holds(constraint), 0);
            due("holdsFor", x.holdsFor(0, constraint), constraint == 1 ? 1 : 0);
            due("its own least sum", x.setConstraint(constraint, 0, 0), constraint + 1);
        }
        int[] outside = {-1, 3};
        dueAt("setConstraint", constraint -> x.setConstraint(constraint, 0, 0), outside, NO_SUCH);
        dueAt("holds", x::holds, outside, NO_SUCH);
        dueAt("holdsFor 0,", constraint -> x.holdsFor(0, constraint), outside, NO_SUCH);
    }

    private void setsOfKeys() {
        // Each key has a value that tells it from all sums of the others.
        int[] values = {1, 2, 4, 8, 16, 32, 64, 128, 256, 512, -400, -999};
        play("b0");
        for (int key = 0; key <= 11; key++) {
            x.write(0, key, values[key]);
        }
        play("c0");
        int[] sets = {0, 1, 2, 1024, 2048, 4094, 2047, 4095, 1365, 2730};
        for (int set : sets) {
            int sum = 0;
            for (int key = 0; key <= 11; key++) {
                sum += (set & 1 << key) != 0 ? values[key] : 0;
            }
            x.setConstraint(1, set, sum);
            due("holds of the set " + set + " with its sum", x.holds(1), 1);
            x.setConstraint(1, set, sum + 1);
            due("holds of the set " + set + " with one more", x.holds(1), 0);
        }
    }

    private void leastSums() {
        due("9999", x.setConstraint(0, 4095, 9999), 0);
        due("10000", x.setConstraint(0, 4095, 10000), BAD_VALUE);
        due("-9999", x.setConstraint(0, 4095, -9999), 9999);
        due("-10000", x.setConstraint(0, 4095, -10000), BAD_VALUE);
        due("0", x.setConstraint(0, 4095, 0), -9999);
        // Ten keys of 999 and one of 9 are 9999, and the other way round.
        play("b0 w0a=999 w0b=999 w0c=999 w0d=999 w0e=999 w0f=999 w0g=999 w0h=999 w0i=999 w0j=999 w0k=9 c0");
        x.setConstraint(0, 4095, 9999);
        due("holds with 9999", x.holds(0), 1);
        play("b0 w0k=8 c0");
        due("holds with 9998", x.holds(0), 0);
        play("b0 w0k=999 w0l=999 c0");
        due("holds with 11988", x.holds(0), 1);
        fresh("b0 w0a=-999 w0b=-999 w0c=-999 w0d=-999 w0e=-999 w0f=-999 w0g=-999 w0h=-999 w0i=-999 w0j=-999");
        play("w0k=-9 c0");
        x.setConstraint(0, 4095, -9999);
        due("holds with -9999", x.holds(0), 1);
        play("b0 w0k=-10 c0");
        due("holds with -10000", x.holds(0), 0);
        play("b0 w0k=-999 w0l=-999 c0");
        due("holds with -11988", x.holds(0), 0);
    }

    private void constraintsAtFirst() {
        play("b0 w0a=-1 w0b=-1 w0c=-1 w0d=-1 w0e=-1 w0f=-1 w0g=-1 w0h=-1 w0i=-1 w0j=-1 w0k=-1 w0l=-1");
        for (int constraint = 0; constraint <= 2; constraint++) {
            due("holds", x.holds(constraint), 1);
            due("holdsFor", x.holdsFor(0, constraint), 1);
        }
        play("c0");
        for (int constraint = 0; constraint <= 2; constraint++) {
            due("holds behind the commit", x.holds(constraint), 1);
            due("setConstraint", x.setConstraint(constraint, 0, 0), 0);
        }
    }

    private void atLeast() {
        play("b0 w0a=7 w0b=-2 c0");
        int[] leasts = {4, 5, 6};
        int[] held = {1, 1, 0};
        for (int i = 0; i < 3; i++) {
            x.setConstraint(0, 3, leasts[i]);
            due("holds of 5 with " + leasts[i], x.holds(0), held[i]);
        }
        // The sum of no keys is 0.
        int[] ofNone = {-1, 0, 1};
        for (int i = 0; i < 3; i++) {
            x.setConstraint(1, 0, ofNone[i]);
            due("holds of no keys with " + ofNone[i], x.holds(1), held[i]);
        }
    }

    private void atMost80() {
        for (int length = 1; length <= 80; length++) {
            due("type", x.type('b'), length);
        }
        due("type of the 81st", x.type('b'), LIMIT);
        due("type of the 81st again", x.type('0'), LIMIT);
        due("clearText", x.clearText(), 80);
        due("type when it is empty again", x.type('b'), 1);
    }

    private void emptyInitially() {
        due("syntaxError", x.syntaxError(), 0);
        due("carryOut", x.carryOut(), BAD_TEXT);
        due("clearText", x.clearText(), 0);
        due("type", x.type('b'), 1);
    }

    private void dueError(String text, int want) {
        x = new SnapshotRings();
        text(text);
        due("syntaxError of " + text, x.syntaxError(), want);
    }

    private void stepsOfSchedule() {
        dueError("b0", NONE);
        dueError("b0;c0", NONE);
        dueError("b0;r0a;w0b=1;c0;a0", NONE);
        dueError("c0" + ";c0".repeat(26), NONE);
        dueError(";b0", 0);
        dueError("b0;", 3);
        dueError("b0;;c0", 3);
        dueError("b0c0", 2);
        dueError("b0,c0", 2);
        dueError("b0;c0;", 6);
    }

    private void formsOfSteps() {
        String[] forms = {"b0", "r0a", "w0a=0", "c0", "a0"};
        for (String form : forms) {
            dueError(form, NONE);
            for (int length = 1; length < form.length(); length++) {
                dueError(form.substring(0, length), length);
                dueError(form.substring(0, length) + "!", length);
                dueError(form.substring(0, length) + ";", length);
            }
            dueError(form + "!", form.length());
            dueError(form.toUpperCase(), 0);
        }
        text("b0;r0a;w0a=3;c0;b1;w1a=4;a1");
        due("carryOut", x.carryOut(), 7);
        due("count(0)", x.count(0), 1);
        due("value(0)", x.value(0), 3);
        due("ofCommit(1, 1)", x.ofCommit(1, 1), 1);
        due("ofCommit(1, 2)", x.ofCommit(1, 2), 1);
        due("count(7)", x.count(7), 1);
    }

    private void slotsOfSteps() {
        String[] before = {"b", "r", "w", "c", "a"};
        String[] behind = {"", "a", "a=0", "", ""};
        for (int i = 0; i < 5; i++) {
            for (char slot = '0'; slot <= '7'; slot++) {
                dueError(before[i] + slot + behind[i], NONE);
            }
            for (char other : new char[] {'/', '8', '9', ':', '-', 'a', '!', '~'}) {
                dueError(before[i] + other + behind[i], 1);
            }
            dueError(before[i] + "00" + behind[i], 2);
        }
        for (char slot = '0'; slot <= '7'; slot++) {
            fresh("");
            text("b" + slot + ";w" + slot + "a=1");
            due("carryOut", x.carryOut(), 2);
            due("of(slot, 2)", x.of(slot - '0', 2), 1);
            due("count(1)", x.count(1), 1);
        }
    }

    private void keysOfSteps() {
        for (char key = 'a'; key <= 'l'; key++) {
            dueError("r0" + key, NONE);
            dueError("w0" + key + "=0", NONE);
            fresh("");
            text("b0;r0" + key + ";w0" + key + "=5;c0");
            due("carryOut", x.carryOut(), 4);
            due("ofCommit(1, 1)", x.ofCommit(1, 1), 1 << key - 'a');
            due("value", x.value(key - 'a'), 5);
        }
        for (char other : new char[] {'`', 'm', 'A', 'L', '0', 'z', '!', '~'}) {
            dueError("r0" + other, 2);
            dueError("w0" + other + "=0", 2);
        }
    }

    private void digitsOfValues() {
        String[] values = {"0", "9", "10", "99", "100", "999"};
        for (String value : values) {
            dueError("w0a=" + value, NONE);
            dueError("w0a=" + value + ";c0", NONE);
            fresh("b0");
            text("w0a=" + value + ";c0");
            due("carryOut", x.carryOut(), 2);
            due("value of " + value, x.value(0), Integer.parseInt(value));
        }
        dueError("w0a=", 4);
        dueError("w0a=;c0", 4);
        dueError("w0a=1000", 7);
        dueError("w0a=1000;c0", 7);
        for (char other : new char[] {'/', ':', '+', '.', 'a'}) {
            dueError("w0a=" + other, 4);
            dueError("w0a=1" + other, 5);
            dueError("w0a=12" + other, 6);
            dueError("w0a=123" + other, 7);
        }
    }

    private void minusOfValues() {
        String[] values = {"-0", "-9", "-10", "-99", "-100", "-999"};
        for (String value : values) {
            dueError("w0a=" + value, NONE);
            fresh("b0");
            text("w0a=" + value + ";c0");
            due("carryOut", x.carryOut(), 2);
            due("value of " + value, x.value(0), Integer.parseInt(value));
        }
        dueError("w0a=-", 5);
        dueError("w0a=-;c0", 5);
        dueError("w0a=--1", 5);
        dueError("w0a=1-", 5);
        dueError("w0a=12-", 6);
        dueError("w0a=123-", 7);
        dueError("w0a=-1000", 8);
        dueError("w0a=-1-", 6);
    }

    private void leadingZeros() {
        String[] values = {"00", "000", "01", "001", "010", "099", "-00", "-000", "-01", "-001", "-010", "-099"};
        for (String value : values) {
            dueError("w0a=" + value, NONE);
            fresh("b0");
            text("w0a=" + value + ";c0");
            due("carryOut", x.carryOut(), 2);
            due("value of " + value, x.value(0), Integer.parseInt(value));
            due("version of " + value, x.version(0), 1);
        }
        // They count among the three digits.
        dueError("w0a=0000", 7);
        dueError("w0a=0001", 7);
        dueError("w0a=-0001", 8);
    }
}
