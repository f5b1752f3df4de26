import java.util.ArrayDeque;
import java.util.ArrayList;
import java.util.Deque;
import java.util.List;
import java.util.function.Consumer;
import java.util.function.ToLongFunction;

/** The boundary sentences of 'Terms': saved states, error codes, and the constants. */
public final class TermsOfUndoTest extends Bench {
    // Behind these the slots 1 and 2 alone are open, and three transactions are committed.
    private static final String[] RICH = {"b0;w0a=4;w0c=-5;c0;b1;b2;r1a;r1b;w1l=7;r2l;w2b=3;b3;r3b;w3d=1;c3",
        "b3;r3d;c3;r2c;w2e=1;r1d;w1e=5"};

    public static void main(String[] args) {
        TermsOfUndoTest test = new TermsOfUndoTest();
        test.savedStates();
        test.errorCodes();
        test.end();
    }

    private void savedStates() {
        sentence("Methods marked \"Undoable\" save the state from before the call", this::undoableMethodsSave);
        sentence("Methods marked \"Undoable\"", this::otherMethodsSaveNothing);
        sentence("if they return no error code.", this::errorsSaveNothing);
        sentence("At most 6 states are saved;", this::atMostSix);
        sentence("when a seventh one is saved, the oldest one is discarded.", this::seventhState);
        sentence("The state is everything", this::stateHasSettings);
        sentence("The state is everything", this::stateHasTransactions);
        sentence("The state is everything", this::stateHasCommits);
        sentence("The state is everything", this::stateHasKeys);
        sentence("The state is everything", this::stateHasKeptCommits);
        sentence("The state is everything", this::stateHasCounts);
        sentence("except the text", this::exceptText);
        sentence("and the saved states.", this::exceptSavedStates);
    }

    private void errorCodes() {
        sentence("A call that returns NO_SUCH, BAD_VALUE, NOT_POSSIBLE, LIMIT or BAD_TEXT changes nothing.",
            this::errorsChangeNothing);
        sentence("LIMIT or BAD_TEXT changes nothing.", this::limitChangesNothing);
        sentence("NOT_POSSIBLE, LIMIT or BAD_TEXT changes nothing.", this::impossibleUndoChangesNothing);
        sentence("If several of them apply, the one that is named first in the @return line is returned.",
            this::firstNamedError);
        sentence("NONE is not an error code.", this::noneIsNoError);
        sentence("The constants", this::constants);
        sentence("There is no such key, slot, transaction, commit or constraint.", this::noSuch);
        sentence("Another argument is out of its range.", this::badValue);
        sentence("The call is not possible in the present state.", this::notPossible);
        sentence("A limit would be exceeded.", this::limit);
        sentence("The text is not a schedule.", this::badText);
        sentence("There is no such result.", this::noResult);
    }

    /** One call on a store, with the answer that is due. */
    private record Call(String name, ToLongFunction<SnapshotRings> made, long due) {
    }

    private static List<Call> undoableCalls() {
        return List.of(
            new Call("setPolicy(1)", s -> s.setPolicy(1), 0),
            new Call("setPolicy(0), which it is", s -> s.setPolicy(0), 0),
            new Call("setConstraint(0, 1, 1)", s -> s.setConstraint(0, 1, 1), 0),
            new Call("setConstraint(0, 0, 0), which it is", s -> s.setConstraint(0, 0, 0), 0),
            new Call("begin(0)", s -> s.begin(0), 1),
            new Call("read(1, 0)", s -> s.read(1, 0), 0),
            new Call("read(1, 1) again", s -> s.read(1, 1), 0),
            new Call("read(1, 2) of its own write", s -> s.read(1, 2), 5),
            new Call("write(1, 3, 1)", s -> s.write(1, 3, 1), 2),
            new Call("write(1, 2, 5) again", s -> s.write(1, 2, 5), 1),
            new Call("commit(3)", s -> s.commit(3), 2),
            new Call("commit(1), which is refused", s -> s.commit(1), -1),
            new Call("abort(1)", s -> s.abort(1), 1),
            new Call("carryOut", s -> carryOn(s, "b0;w0a=1;c0;b0;c1"), 5),
            new Call("carryOut without a step", s -> carryOn(s, "c0;b0"), 0));
    }

    private static List<Call> otherCalls() {
        return List.of(
            new Call("count(0)", s -> s.count(0), 1),
            new Call("value(2)", s -> s.value(2), 5),
            new Call("version(2)", s -> s.version(2), 1),
            new Call("of(1, 0)", s -> s.of(1, 0), 0),
            new Call("of(1, 1)", s -> s.of(1, 1), 2),
            new Call("of(1, 3)", s -> s.of(1, 3), 1),
            new Call("ofCommit(1, 2)", s -> s.ofCommit(1, 2), 4),
            new Call("dependency(1, 1)", s -> s.dependency(1, 1), BAD_VALUE),
            new Call("ringOf(1, 1)", s -> s.ringOf(1, 1), NONE),
            new Call("inRings()", s -> s.inRings(), 0),
            new Call("orderAt(0)", s -> s.orderAt(0), 1),
            new Call("skews()", s -> s.skews(), 0),
            new Call("holds(0)", s -> s.holds(0), 1),
            new Call("holdsFor(1, 0)", s -> s.holdsFor(1, 0), 1),
            new Call("ifAllCommitted()", s -> s.ifAllCommitted(), 3),
            new Call("refusedBy(1)", s -> s.refusedBy(1), 0),
            new Call("type('b')", s -> s.type('b'), 1),
            new Call("clearText()", s -> s.clearText(), 0),
            new Call("syntaxError()", s -> s.syntaxError(), 0));
    }

    /** Calls that answer an error code where the slots 1 and 2 are open, and 3 transactions committed. */
    private static List<Call> refusedCalls() {
        List<Call> calls = new ArrayList<>();
        for (int slot : new int[] {-1, 8, 0, 3, 33}) {
            calls.add(new Call("read(" + slot + ", 0)", s -> s.read(slot, 0), NO_SUCH));
            calls.add(new Call("write(" + slot + ", 0, 1)", s -> s.write(slot, 0, 1), NO_SUCH));
            calls.add(new Call("commit(" + slot + ")", s -> s.commit(slot), NO_SUCH));
            calls.add(new Call("abort(" + slot + ")", s -> s.abort(slot), NO_SUCH));
            calls.add(new Call("of(" + slot + ", 3)", s -> s.of(slot, 3), NO_SUCH));
            calls.add(new Call("ringOf(" + slot + ", 1)", s -> s.ringOf(slot, 1), NO_SUCH));
            calls.add(new Call("holdsFor(" + slot + ", 0)", s -> s.holdsFor(slot, 0), NO_SUCH));
            calls.add(new Call("refusedBy(" + slot + ")", s -> s.refusedBy(slot), NO_SUCH));
        }
        for (int key : new int[] {-1, 12, 32}) {
            calls.add(new Call("read(1, " + key + ")", s -> s.read(1, key), NO_SUCH));
            calls.add(new Call("write(1, " + key + ", 1)", s -> s.write(1, key, 1), NO_SUCH));
            calls.add(new Call("value(" + key + ")", s -> s.value(key), NO_SUCH));
            calls.add(new Call("version(" + key + ")", s -> s.version(key), NO_SUCH));
        }
        for (int constraint : new int[] {-1, 3}) {
            calls.add(new Call("setConstraint", s -> s.setConstraint(constraint, 1, 1), NO_SUCH));
            calls.add(new Call("holds", s -> s.holds(constraint), NO_SUCH));
            calls.add(new Call("holdsFor", s -> s.holdsFor(1, constraint), NO_SUCH));
        }
        for (int commit : new int[] {-1, 0, 4}) {
            calls.add(new Call("ofCommit(" + commit + ", 0)", s -> s.ofCommit(commit, 0), NO_SUCH));
            calls.add(new Call("dependency(" + commit + ", 1)", s -> s.dependency(commit, 1), NO_SUCH));
            calls.add(new Call("dependency(1, " + commit + ")", s -> s.dependency(1, commit), NO_SUCH));
        }
        calls.addAll(badCalls());
        return calls;
    }

    private static List<Call> badCalls() {
        return List.of(
            new Call("setPolicy(-1)", s -> s.setPolicy(-1), BAD_VALUE),
            new Call("setPolicy(3)", s -> s.setPolicy(3), BAD_VALUE),
            new Call("setConstraint(0, -1, 1)", s -> s.setConstraint(0, -1, 1), BAD_VALUE),
            new Call("setConstraint(0, 4096, 1)", s -> s.setConstraint(0, 4096, 1), BAD_VALUE),
            new Call("setConstraint(0, 1, -10000)", s -> s.setConstraint(0, 1, -10000), BAD_VALUE),
            new Call("setConstraint(0, 1, 10000)", s -> s.setConstraint(0, 1, 10000), BAD_VALUE),
            new Call("begin(-1)", s -> s.begin(-1), NO_SUCH),
            new Call("begin(8)", s -> s.begin(8), NO_SUCH),
            new Call("begin(1)", s -> s.begin(1), NOT_POSSIBLE),
            new Call("write(1, 0, -1000)", s -> s.write(1, 0, -1000), BAD_VALUE),
            new Call("write(1, 0, 1000)", s -> s.write(1, 0, 1000), BAD_VALUE),
            new Call("count(-1)", s -> s.count(-1), BAD_VALUE),
            new Call("count(8)", s -> s.count(8), BAD_VALUE),
            new Call("of(1, -1)", s -> s.of(1, -1), BAD_VALUE),
            new Call("of(1, 4)", s -> s.of(1, 4), BAD_VALUE),
            new Call("ofCommit(1, -1)", s -> s.ofCommit(1, -1), BAD_VALUE),
            new Call("ofCommit(1, 3)", s -> s.ofCommit(1, 3), BAD_VALUE),
            new Call("dependency(2, 2)", s -> s.dependency(2, 2), BAD_VALUE),
            new Call("ringOf(1, 0)", s -> s.ringOf(1, 0), BAD_VALUE),
            new Call("ringOf(1, -1)", s -> s.ringOf(1, -1), BAD_VALUE),
            new Call("orderAt(-1)", s -> s.orderAt(-1), BAD_VALUE),
            new Call("type(32)", s -> s.type(32), BAD_VALUE),
            new Call("type(127)", s -> s.type(127), BAD_VALUE),
            new Call("carryOut()", s -> s.carryOut(), BAD_TEXT));
    }

    private void undoableMethodsSave() {
        for (Call call : undoableCalls()) {
            x = new SnapshotRings();
            carry("b1;r1b;w1c=5;b2;w2c=5;c2;b3");
            long before = x.digest();
            due(call.name, call.made.applyAsLong(x), call.due);
            due("undo of " + call.name, x.undo(), 1);
            due("digest behind the undo of " + call.name, x.digest(), before);
            due("states ahead of " + call.name, drain(), 1);
        }
    }

    private void otherMethodsSaveNothing() {
        for (Call call : otherCalls()) {
            x = new SnapshotRings();
            carry("b1;r1b;w1c=5;b2;w2c=5;c2;b3");
            long before = x.digest();
            due(call.name, call.made.applyAsLong(x), call.due);
            due("digest behind " + call.name, x.digest(), before);
            due("states behind " + call.name, drain(), 1);
        }
    }

    private void errorsSaveNothing() {
        for (Call call : refusedCalls()) {
            x = new SnapshotRings();
            carry(RICH[0]);
            carry(RICH[1]);
            due(call.name, call.made.applyAsLong(x), call.due);
            due("states behind " + call.name, drain(), 2);
        }
    }

    private void atMostSix() {
        for (int calls = 0; calls <= 20; calls++) {
            x = new SnapshotRings();
            for (int i = 0; i < calls; i++) {
                x.setPolicy(i % 3);
            }
            due("states behind " + calls + " calls", drain(), Math.min(calls, 6));
        }
        // The first undo tells how many are left.
        for (int calls = 1; calls <= 8; calls++) {
            x = new SnapshotRings();
            for (int i = 0; i < calls; i++) {
                x.setPolicy(i % 3);
            }
            due("undo behind " + calls + " calls", x.undo(), Math.min(calls, 6) - 1);
        }
    }

    private void seventhState() {
        int[] changes = {7, -3, 1, -4, 6, -6, 5, -2, 4, -1, 9, -6, -1, 1, -1};
        Deque<Long> model = new ArrayDeque<>();
        for (int change : changes) {
            for (int i = 0; i < change; i++) {
                model.addLast(x.digest());
                if (model.size() > 6) {
                    model.removeFirst();
                }
                due("a change", x.count(1) == 0 ? x.begin(0) : x.commit(0), x.count(0));
            }
            for (int i = 0; i > change; i--) {
                boolean possible = !model.isEmpty();
                long digest = possible ? model.removeLast() : x.digest();
                due("undo", x.undo(), possible ? model.size() : NOT_POSSIBLE);
                due("digest", x.digest(), digest);
            }
        }
        // The state ahead of the first of seven calls does not come back.
        fresh("b0 b1 b2 b3 b4 b5 b6");
        due("states", drain(), 6);
        due("count(1)", x.count(1), 1);
        due("begin(0)", x.begin(0), NOT_POSSIBLE);
        due("begin(1)", x.begin(1), 0);
    }

    private void stateHasSettings() {
        x.setPolicy(2);
        x.setPolicy(1);
        x.undo();
        due("policy", x.count(2), 2);
        x.undo();
        due("policy", x.count(2), 0);
        x.setConstraint(1, 6, 5);
        x.setConstraint(1, 9, -5);
        x.undo();
        play("b0 w0b=3 w0c=2");
        due("keys and least sum", x.holdsFor(0, 1), 1);
        play("w0c=1 w0a=99 w0d=99");
        due("keys and least sum", x.holdsFor(0, 1), 0);
        due("least sum", x.setConstraint(1, 0, 0), 5);
        x.undo();
        due("keys and least sum", x.holdsFor(0, 1), 0);
        due("least sum", x.setConstraint(1, 0, 0), 5);
    }

    private void stateHasTransactions() {
        play("b0 w0a=1 w0a=2 w0b=3 r0c");
        x.undo();
        due("reads", x.of(0, 1), 0);
        x.undo();
        due("writes", x.of(0, 2), 1);
        due("a key that is not written any more", x.read(0, 1), 0);
        due("reads of it", x.of(0, 1), 2);
        x.undo();
        x.undo();
        due("the value that it wrote before", x.read(0, 0), 1);
        play("c0");
        due("value(0)", x.value(0), 1);
        due("value(1)", x.value(1), 0);
        // An older transaction of the slot comes back with its snapshot, and the versions that it read.
        fresh("b7 w7a=1 c7 b0 r0a b7 w7a=2 c7 a0 b0 r0b r0a");
        x.undo();
        x.undo();
        x.undo();
        x.undo();
        due("of(0, 0)", x.of(0, 0), 1);
        due("of(0, 1)", x.of(0, 1), 1);
        due("read(0, 0)", x.read(0, 0), 1);
        play("c0");
        due("dependency(1, 3)", x.dependency(1, 3), 2);
        due("dependency(3, 2)", x.dependency(3, 2), 4);
        due("ofCommit(3, 0)", x.ofCommit(3, 0), 1);
        // A slot that was free is free again, and begins anew.
        fresh("b0 r0a w0b=1");
        drain();
        due("of(0, 0)", x.of(0, 0), NO_SUCH);
        due("begin(0)", x.begin(0), 0);
        due("of(0, 1)", x.of(0, 1), 0);
        due("of(0, 2)", x.of(0, 2), 0);
    }

    private void stateHasCommits() {
        play("b0 r0a r0b w0a=5 w0b=6 c0 b0 r0c r0d w0a=7 c0");
        x.undo();
        due("count(0)", x.count(0), 1);
        due("value(0)", x.value(0), 5);
        due("version(0)", x.version(0), 1);
        due("ofCommit(2, 0)", x.ofCommit(2, 0), NO_SUCH);
        due("of(0, 0)", x.of(0, 0), 1);
        due("of(0, 1)", x.of(0, 1), 12);
        due("of(0, 2)", x.of(0, 2), 1);
        due("commit(0)", x.commit(0), 2);
        due("value(0)", x.value(0), 7);
        // The oldest of 16 commits comes back, when the 17th one is taken back.
        emptyCommits(14);
        due("ofCommit(1, 1)", x.ofCommit(1, 1), 3);
        emptyCommits(1);
        due("ofCommit(1, 1)", x.ofCommit(1, 1), NO_SUCH);
        x.undo();
        due("ofCommit(1, 0)", x.ofCommit(1, 0), 0);
        due("ofCommit(1, 1)", x.ofCommit(1, 1), 3);
        due("ofCommit(1, 2)", x.ofCommit(1, 2), 3);
        due("dependency(1, 2)", x.dependency(1, 2), 5);
        due("ofCommit(17, 0)", x.ofCommit(17, 0), NO_SUCH);
        // And the versions that it read.
        fresh("b1 r1a b0 w0a=1 c0 c1");
        emptyCommits(15);
        due("dependency(2, 1)", x.dependency(2, 1), NO_SUCH);
        play("b7 r7a c7");
        x.undo();
        x.undo();
        x.undo();
        due("commits", x.count(0), 17);
        x.undo();
        due("dependency(2, 1)", x.dependency(2, 1), 4);
    }

    private void stateHasKeys() {
        play("b0 w0a=1 w0b=2 w0c=3 w0d=4 w0e=5 w0f=6 w0g=7 w0h=8 w0i=9 w0j=10 w0k=11 w0l=12 c0 b0 b1");
        for (int key = 0; key <= 11; key++) {
            x.write(1, key, 50 + key);
        }
        due("commit(1)", x.commit(1), 2);
        due("undo", x.undo(), 5);
        for (int key = 0; key <= 11; key++) {
            due("value", x.value(key), key + 1);
            due("version", x.version(key), 1);
            due("what the slot 0 sees", x.read(0, key), key + 1);
            due("what the slot 1 wrote", x.read(1, key), 50 + key);
        }
        // And the versions of the reads, of a slot that has begun anew since.
        for (char key = 'a'; key <= 'l'; key++) {
            fresh("b7 r7" + key + " b0 w0" + key + "=1 c0 a7 b7 r7" + key);
            x.undo();
            x.undo();
            x.undo();
            play("c7");
            due("dependency(2, 1) by " + key, x.dependency(2, 1), 4);
            due("dependency(1, 2) by " + key, x.dependency(1, 2), 0);
        }
    }

    private void stateHasKeptCommits() {
        // Each commit reads and writes l; the one that is pushed out by the next comes back.
        for (int number = 1; number <= 32; number++) {
            play("b0 r0l w0l=" + number + " c0");
            if (number < 15) {
                continue;
            }
            int oldest = Math.max(1, number - 15);
            play("b0 r0a c0");
            due("the oldest", x.ofCommit(oldest, 0), number == 15 ? 0 : NO_SUCH);
            x.undo();
            x.undo();
            x.undo();
            due("snapshot", x.ofCommit(oldest, 0), oldest - 1);
            due("reads", x.ofCommit(oldest, 1), 2048);
            due("writes", x.ofCommit(oldest, 2), 2048);
            due("dependency", x.dependency(oldest, oldest + 1), 7);
        }
    }

    private void stateHasCounts() {
        String[] ends = {"b1 w1a=1 b2 w2a=1 c2 c1", "b1 b2 r1a r2b w1b=1 w2a=1 c2 c1",
            "b0 b1 b2 r0a w1a=1 r1b w2b=1 c0 c2 c1", "b1 a1"};
        for (int what = 4; what <= 7; what++) {
            fresh(ends[what - 4].substring(0, ends[what - 4].length() - 2));
            x.setPolicy(2);
            due("count before", x.count(what), 0);
            step(ends[what - 4].substring(ends[what - 4].length() - 2));
            due("count(" + what + ")", x.count(what), 1);
            due("count(1)", x.count(1), 0);
            x.undo();
            due("count(" + what + ") behind undo", x.count(what), 0);
            due("count(1) behind undo", x.count(1), 1);
            due("of(1, 0)", x.of(1, 0), 0);
            due("of(1, 3)", x.of(1, 3), what == 7 ? 0 : what - 3);
        }
    }

    private void exceptText() {
        typeOn(x, "b1;");
        play("b0");
        typeOn(x, "c1");
        due("undo", x.undo(), 0);
        due("count(1)", x.count(1), 0);
        due("syntaxError", x.syntaxError(), NONE);
        due("carryOut", x.carryOut(), 2);
        due("undo of carryOut", x.undo(), 0);
        due("clearText", x.clearText(), 0);
        text("b2");
        play("b0");
        due("clearText", x.clearText(), 2);
        due("undo", x.undo(), 0);
        due("clearText", x.clearText(), 0);
        text("b0!");
        due("undo", x.undo(), NOT_POSSIBLE);
        due("clearText", x.clearText(), 3);
    }

    private void exceptSavedStates() {
        play("b0 b1 b2 b3 b4 b5 b6 b7");
        due("undo", x.undo(), 5);
        due("undo", x.undo(), 4);
        due("count(1)", x.count(1), 6);
        // What was undone is not saved, and the states that were discarded do not come back.
        play("b7");
        due("undo", x.undo(), 4);
        due("count(1)", x.count(1), 6);
        due("states", drain(), 4);
        due("count(1)", x.count(1), 2);
        due("undo", x.undo(), NOT_POSSIBLE);
        due("count(1)", x.count(1), 2);
    }

    private static void carryRich(SnapshotRings store) {
        store.setPolicy(1);
        store.setConstraint(0, 5, -1);
        store.setConstraint(2, 2064, 12);
        carryOn(store, RICH[0]);
        carryOn(store, RICH[1]);
    }

    private static void playRich(SnapshotRings store) {
        for (String part : RICH) {
            for (String step : part.split(";")) {
                stepOn(store, step);
            }
        }
    }

    /** Makes the call on one of two stores that are filled alike; then they must still be alike. */
    private void dueTwins(Call call, Consumer<SnapshotRings> filled) {
        for (int way = 0; way < 3; way++) {
            SnapshotRings twin = new SnapshotRings();
            SnapshotRings asked = new SnapshotRings();
            filled.accept(twin);
            filled.accept(asked);
            due(call.name, call.made.applyAsLong(asked), call.due);
            due("the same behind " + call.name, look(asked, way).equals(look(twin, way)) ? 1 : 0, 1);
        }
    }

    private void errorsChangeNothing() {
        for (Call call : refusedCalls()) {
            dueTwins(call, store -> {
                carryRich(store);
                typeOn(store, "b0;w0a=1;b");
            });
            dueTwins(call, store -> {
                playRich(store);
                typeOn(store, call.due == BAD_TEXT ? "b0;w8a=1" : "b0;w0a=1;r1b;c1");
            });
        }
    }

    private void limitChangesNothing() {
        String full = "b0;w0a=-1" + ";w0a=-01".repeat(8) + ";r0a;a";
        for (String last : new String[] {"0", "!"}) {
            dueTwins(new Call("type('0')", s -> s.type('0'), LIMIT), store -> {
                carryRich(store);
                typeOn(store, full + last);
            });
        }
        due("length", full.length(), 79);
    }

    private void impossibleUndoChangesNothing() {
        dueTwins(new Call("undo()", s -> s.undo(), NOT_POSSIBLE), store -> {
            playRich(store);
            for (int i = 0; i < 6; i++) {
                store.undo();
            }
            typeOn(store, "b0;w0a=1;c0");
        });
        dueTwins(new Call("undo()", s -> s.undo(), NOT_POSSIBLE), store -> typeOn(store, "b0;c"));
    }

    private void firstNamedError() {
        carryRich(x);
        due("setConstraint(3, -1, 0)", x.setConstraint(3, -1, 0), NO_SUCH);
        due("setConstraint(-1, 4096, 0)", x.setConstraint(-1, 4096, 0), NO_SUCH);
        due("setConstraint(3, 0, 10000)", x.setConstraint(3, 0, 10000), NO_SUCH);
        due("write(0, 0, 1000)", x.write(0, 0, 1000), NO_SUCH);
        due("write(8, 0, 1000)", x.write(8, 0, 1000), NO_SUCH);
        due("write(-1, 0, -1000)", x.write(-1, 0, -1000), NO_SUCH);
        due("write(1, 12, 1000)", x.write(1, 12, 1000), NO_SUCH);
        due("write(1, -1, -1000)", x.write(1, -1, -1000), NO_SUCH);
        due("of(0, 4)", x.of(0, 4), NO_SUCH);
        due("of(8, -1)", x.of(8, -1), NO_SUCH);
        due("ofCommit(0, 3)", x.ofCommit(0, 3), NO_SUCH);
        due("ofCommit(4, -1)", x.ofCommit(4, -1), NO_SUCH);
        due("dependency(0, 0)", x.dependency(0, 0), NO_SUCH);
        due("dependency(4, 4)", x.dependency(4, 4), NO_SUCH);
        due("ringOf(0, 0)", x.ringOf(0, 0), NO_SUCH);
        due("ringOf(8, -1)", x.ringOf(8, -1), NO_SUCH);
        emptyCommits(14);
        due("ofCommit(1, 3)", x.ofCommit(1, 3), NO_SUCH);
        due("dependency(1, 1)", x.dependency(1, 1), NO_SUCH);
        text("!".repeat(80));
        due("type(32)", x.type(32), BAD_VALUE);
        due("type(127)", x.type(127), BAD_VALUE);
    }

    private void noneIsNoError() {
        // So an error code is returned where there is no such result, too.
        play("b0");
        due("ringOf(0, 0) without a ring", x.ringOf(0, 0), BAD_VALUE);
        due("orderAt(-1) without commits", x.orderAt(-1), BAD_VALUE);
        play("a0 " + SKEW + " c0 c1");
        due("orderAt(0) without an order", x.orderAt(0), NONE);
        due("orderAt(-1) without an order", x.orderAt(-1), BAD_VALUE);
    }

    private void constants() {
        due("NO_SUCH", SnapshotRings.NO_SUCH, -20001);
        due("BAD_VALUE", SnapshotRings.BAD_VALUE, -20002);
        due("NOT_POSSIBLE", SnapshotRings.NOT_POSSIBLE, -20003);
        due("LIMIT", SnapshotRings.LIMIT, -20004);
        due("BAD_TEXT", SnapshotRings.BAD_TEXT, -20005);
        due("NONE", SnapshotRings.NONE, -20006);
    }

    private void noSuch() {
        play("b1 c1 b1");
        due("no such key", x.value(12), NO_SUCH);
        due("no such slot", x.begin(8), NO_SUCH);
        due("no such transaction", x.read(0, 0), NO_SUCH);
        due("no such commit", x.ofCommit(2, 0), NO_SUCH);
        due("no such constraint", x.holds(3), NO_SUCH);
        // No more than that: each of them is there.
        due("a key", x.value(11), 0);
        due("a slot", x.begin(7), 1);
        due("a transaction", x.read(1, 0), 0);
        due("a commit", x.ofCommit(1, 0), 0);
        due("a constraint", x.holds(2), 1);
    }

    private void badValue() {
        carryRich(x);
        for (Call call : badCalls()) {
            if (call.due == BAD_VALUE) {
                due(call.name, call.made.applyAsLong(x), BAD_VALUE);
            }
        }
    }

    private void notPossible() {
        due("undo", x.undo(), NOT_POSSIBLE);
        due("begin(0)", x.begin(0), 0);
        due("begin(0) again", x.begin(0), NOT_POSSIBLE);
        due("undo", x.undo(), 0);
        due("undo again", x.undo(), NOT_POSSIBLE);
        due("begin(0)", x.begin(0), 0);
    }

    private void limit() {
        text("b".repeat(79));
        due("type of the 80th", x.type('b'), 80);
        due("type of the 81st", x.type('b'), LIMIT);
        due("clearText", x.clearText(), 80);
    }

    private void badText() {
        due("carryOut of no text", x.carryOut(), BAD_TEXT);
        text("b0;");
        due("carryOut", x.carryOut(), BAD_TEXT);
        typeOn(x, "b1");
        due("carryOut", x.carryOut(), 2);
    }

    private void noResult() {
        play("b0");
        due("no ring", x.ringOf(0, 1), NONE);
        due("no policy", x.refusedBy(0), NONE);
        due("no commit in the order", x.orderAt(0), NONE);
        text("b1");
        due("no error", x.syntaxError(), NONE);
    }
}
