import java.util.ArrayList;
import java.util.List;
import java.util.function.ToLongFunction;

/**
 * What the tests of single sentences share: each sentence gets a new store and short ways to fill
 * it. Steps are told as in a schedule, but with blanks between them, and made by calls.
 */
abstract class Bench {
    static final int NO_SUCH = -20001;
    static final int BAD_VALUE = -20002;
    static final int NOT_POSSIBLE = -20003;
    static final int LIMIT = -20004;
    static final int BAD_TEXT = -20005;
    static final int NONE = -20006;
    static final int[] FAR_OUT = {Integer.MIN_VALUE, Integer.MIN_VALUE + 1, -65536, 65536, 1 << 30, Integer.MAX_VALUE};

    // Two that can each be right alone: each reads what the other one writes.
    static final String SKEW = "b0 b1 r0a r0b r1a r1b w0a=-1 w1b=-1";
    // Slot 0 must come before slot 1 and that one before slot 2, in no ring.
    static final String CHAIN = "b0 b1 b2 r0a w1a=1 r1b w2b=1";
    // The same two readers and writers in a ring of three.
    static final String TRIANGLE = "b0 b1 b2 r0a r1b r2c w1a=1 w2b=1 w0c=1";

    SnapshotRings x = new SnapshotRings();
    private final Check check;
    private int sentences = 0;

    Bench() {
        check = new Check(getClass().getSimpleName());
    }

    /** Runs the test of one sentence of the document, on a new store. */
    final void sentence(String quote, Runnable test) {
        check.part('"' + quote + '"');
        int asked = check.asked();
        x = new SnapshotRings();
        test.run();
        sentences++;
        if (check.asked() == asked) {
            check.fail("the test asks nothing");
        }
    }

    final void end() {
        System.out.println(getClass().getSimpleName() + ": " + sentences + " sentences");
        check.end();
    }

    final void due(String call, long got, long want) {
        check.due(call, got, want);
    }

    /** All answers of the method for these arguments. */
    final void dueAt(String method, ToLongFunction<Integer> made, int[] arguments, long want) {
        for (int argument : arguments) {
            due(method + "(" + argument + ")", made.applyAsLong(argument), want);
        }
    }

    final void fresh(String steps) {
        x = new SnapshotRings();
        play(steps);
    }

    /** Makes the calls of the steps; none of them may answer an error code. */
    final void play(String steps) {
        for (String step : steps.trim().split(" +")) {
            if (!step.isEmpty()) {
                due(step + " is possible", stepOn(x, step) > NO_SUCH ? 1 : 0, 1);
            }
        }
    }

    final long step(String step) {
        return stepOn(x, step);
    }

    static int stepOn(SnapshotRings store, String step) {
        int slot = step.charAt(1) - '0';
        switch (step.charAt(0)) {
            case 'b':
                return store.begin(slot);
            case 'c':
                return store.commit(slot);
            case 'a':
                return store.abort(slot);
            case 'r':
                return store.read(slot, step.charAt(2) - 'a');
            default:
                return store.write(slot, step.charAt(2) - 'a', Integer.parseInt(step.substring(4)));
        }
    }

    /** So many commits that neither read nor write, by the slot 7. */
    final void emptyCommits(int number) {
        for (int i = 0; i < number; i++) {
            play("b7 c7");
        }
    }

    /** Makes the text this one. */
    final void text(String text) {
        x.clearText();
        for (int i = 0; i < text.length(); i++) {
            due("type of " + text, x.type(text.charAt(i)), i + 1);
        }
    }

    /** Carries out the schedule by one call, which saves one state. */
    final void carry(String schedule) {
        due("steps of " + schedule, carryOn(x, schedule), schedule.split(";").length);
    }

    static int carryOn(SnapshotRings store, String schedule) {
        store.clearText();
        typeOn(store, schedule);
        return store.carryOut();
    }

    static void typeOn(SnapshotRings store, String text) {
        for (int i = 0; i < text.length(); i++) {
            store.type(text.charAt(i));
        }
    }

    /** The number of saved states, which are used up. */
    final int drain() {
        int states = 0;
        while (states < 20 && x.undo() != NOT_POSSIBLE) {
            states++;
        }
        return states;
    }

    final void dueOrder(int... commits) {
        for (int i = 0; i < commits.length; i++) {
            due("orderAt(" + i + ")", x.orderAt(i), commits[i]);
        }
        due("orderAt(" + commits.length + ")", x.orderAt(commits.length), NONE);
    }

    /** The ring of the slot that is told, without the transaction itself; none if it is empty. */
    final void dueRing(int slot, int... commits) {
        for (int i = 0; i < commits.length; i++) {
            due("ringOf(" + slot + ", " + (i + 1) + ")", x.ringOf(slot, i + 1), commits[i]);
        }
        due("ringOf(" + slot + ", " + (commits.length + 1) + ")", x.ringOf(slot, commits.length + 1), NONE);
    }

    /** One of the three looks at all that can be seen of a store; it uses the store up. */
    static List<Long> look(SnapshotRings store, int way) {
        List<Long> seen = new ArrayList<>();
        seen.add(store.digest());
        if (way == 0) {
            lookAtSaved(store, seen);
        } else if (way == 1) {
            lookAtText(store, seen);
        } else {
            lookAtTransactions(store, seen);
            lookAtConstraints(store, seen);
        }
        return seen;
    }

    private static void lookAtSaved(SnapshotRings store, List<Long> seen) {
        for (int i = 0; i < 8; i++) {
            seen.add((long) store.undo());
            seen.add(store.digest());
        }
    }

    private static void lookAtText(SnapshotRings store, List<Long> seen) {
        seen.add((long) store.syntaxError());
        seen.add((long) store.carryOut());
        seen.add(store.digest());
        seen.add((long) store.clearText());
    }

    private static void lookAtTransactions(SnapshotRings store, List<Long> seen) {
        for (int slot = 0; slot < 8; slot++) {
            seen.add((long) store.ringOf(slot, 1));
            if (store.of(slot, 0) == NO_SUCH) {
                continue;
            }
            for (int key = 0; key < 12; key++) {
                seen.add((long) store.read(slot, key));
            }
        }
    }

    private static void lookAtConstraints(SnapshotRings store, List<Long> seen) {
        store.begin(0);
        for (int key = 0; key < 12; key++) {
            for (int value : new int[] {-999, 999, 0}) {
                store.write(0, key, value);
                for (int constraint = 0; constraint < 3; constraint++) {
                    seen.add((long) store.holdsFor(0, constraint));
                }
            }
        }
        for (int constraint = 0; constraint < 3; constraint++) {
            seen.add((long) store.setConstraint(constraint, 0, 0));
        }
    }
}
