import java.math.BigInteger;
import java.util.ArrayList;
import java.util.List;

/** The boundary sentences of the promises 23 to 28: the text, undo and the digest. */
public final class Promises23To28Test extends Bench {
    // A schedule of 27 steps has 80 characters.
    private static final String FULL = "b0" + ";c0;b0".repeat(13);
    private static final String DIGITS = "0123456789";

    public static void main(String[] args) {
        Promises23To28Test test = new Promises23To28Test();
        test.typing();
        test.syntax();
        test.carryingOut();
        test.undoAndDigest();
        test.end();
    }

    private void typing() {
        sentence("23: Appends a character to the text.", this::appends);
        sentence("23: `code`: character code, 33 to 126", this::codes);
        sentence("23: Returns the new length of the text;", this::newLength);
        sentence("23: BAD_VALUE if code is out of range;", this::badCodes);
        sentence("23: LIMIT if the text has 80 characters.", this::fullText);
        sentence("24: Makes the text empty.", this::makesEmpty);
        sentence("24: Returns the previous length of the text.", this::previousLength);
    }

    private void syntax() {
        sentence("25: Returns the index of the first character for which no schedule", this::firstWrongCharacter);
        sentence("25: of any length,", this::ofAnyLength);
        sentence("25: begins with the characters of the text up to and including this one;", this::eachCharacter);
        sentence("25: the length of the text if there is no such character but the text is not a schedule",
            this::unfinishedText);
        sentence("25: (this holds for the empty text);", this::emptyText);
        sentence("25: NONE if the text is a schedule.", this::schedules);
    }

    private void carryingOut() {
        sentence("26: Carries out the steps of the text from left to right", this::leftToRight);
        sentence("26: Carries out the steps of the text", this::lastStep);
        sentence("26: up to the first one whose method (begin, read, write, commit or abort) would return an error "
            + "code.", this::upToFirstError);
        sentence("26: The text becomes empty.", this::textBecomesEmpty);
        sentence("26: One state is saved for the whole call", this::oneState);
        sentence("26: also if no step is carried out.", this::oneStateWithoutStep);
        sentence("26: Returns the number of steps that are carried out;", this::numberOfSteps);
        sentence("26: BAD_TEXT if the text is not a schedule (then the text stays).", this::textStays);
    }

    private void undoAndDigest() {
        sentence("27: Restores the state that was saved last, and discards it from the saved states.",
            this::restoresLast);
        sentence("27: Returns the number of saved states that are left;", this::statesLeft);
        sentence("27: NOT_POSSIBLE if no state is saved.", this::nothingSaved);
        sentence("28: The hash starts at 368.", this::digestOfNewObject);
        sentence("28: for each open transaction, by ascending slots", this::digestOfTransactions);
        sentence("28: for each kept commit, by ascending numbers", this::digestOfCommits);
        sentence("28: for each pair of kept commits a < b, by a and then by b", this::digestOfPairs);
        sentence("28: orderAt(0) to orderAt(15);", this::digestOfOrders);
        sentence("28: holds(0) to holds(2).", this::digestOfConstraints);
        sentence("28: in long arithmetic with overflow.", this::digestOverflows);
    }

    private void appends() {
        x.type('b');
        due("syntaxError of b", x.syntaxError(), 1);
        x.type('3');
        due("syntaxError of b3", x.syntaxError(), NONE);
        x.type(';');
        x.type('c');
        x.type('3');
        due("carryOut", x.carryOut(), 2);
    }

    private void codes() {
        due("type(33)", x.type(33), 1);
        due("type(34)", x.type(34), 2);
        due("type(125)", x.type(125), 3);
        due("type(126)", x.type(126), 4);
        x.clearText();
        for (int code = 33; code <= 126; code++) {
            due("type(" + code + ")", x.type(code), 1);
            due("syntaxError of the code " + code, x.syntaxError(), "brwca".indexOf(code) >= 0 ? 1 : 0);
            x.clearText();
        }
    }

    private void newLength() {
        for (int length = 1; length <= 80; length++) {
            due("type", x.type(33 + length), length);
        }
        x.clearText();
        due("behind clearText", x.type(33), 1);
        text("b0");
        x.carryOut();
        due("behind carryOut", x.type(33), 1);
    }

    private void badCodes() {
        x.type('b');
        dueAt("type", x::type, new int[] {-1, 0, 10, 31, 32, 127, 128, 255, 354, 65536 + 98}, BAD_VALUE);
        dueAt("type", x::type, FAR_OUT, BAD_VALUE);
        due("clearText", x.clearText(), 1);
    }

    private void fullText() {
        text(FULL);
        due("length", FULL.length(), 80);
        for (int code : new int[] {33, 'b', 126}) {
            due("type(" + code + ")", x.type(code), LIMIT);
        }
        due("syntaxError", x.syntaxError(), NONE);
        due("type(32)", x.type(32), BAD_VALUE);
        due("carryOut", x.carryOut(), 27);
        due("type when it is empty", x.type('b'), 1);
        text("b".repeat(79));
        due("type of the 80th", x.type('b'), 80);
    }

    private void makesEmpty() {
        x.clearText();
        due("syntaxError of an empty one", x.syntaxError(), 0);
        text("b!!");
        x.clearText();
        due("syntaxError", x.syntaxError(), 0);
        due("type", x.type('b'), 1);
        due("syntaxError", x.syntaxError(), 1);
        text(FULL);
        x.clearText();
        text("c0");
        due("syntaxError", x.syntaxError(), NONE);
        due("carryOut", x.carryOut(), 0);
    }

    private void previousLength() {
        due("of an empty one", x.clearText(), 0);
        x.type('!');
        due("of one", x.clearText(), 1);
        due("again", x.clearText(), 0);
        text(FULL.substring(0, 79));
        due("of 79", x.clearText(), 79);
        text(FULL);
        x.type('!');
        due("of 80", x.clearText(), 80);
        text("b0");
        x.carryOut();
        due("behind carryOut", x.clearText(), 0);
    }

    private void dueError(String text, int want) {
        x = new SnapshotRings();
        text(text);
        due("syntaxError of " + text, x.syntaxError(), want);
    }

    private void firstWrongCharacter() {
        dueError("!", 0);
        dueError("!!", 0);
        dueError("b!", 1);
        dueError("b8!!", 1);
        dueError("b0;x;y", 3);
        dueError("w0a=1234;x", 7);
        dueError(FULL.substring(0, 79) + "!", 79);
        dueError("!" + FULL.substring(0, 79), 0);
        dueError(FULL.substring(0, 40) + "!" + FULL.substring(41), 40);
    }

    private void ofAnyLength() {
        // Schedules that begin with these have more than 80 characters.
        dueError(FULL.substring(0, 79) + "0", NONE);
        dueError(FULL.substring(0, 78) + "0b", 78);
        dueError("w0a=123" + ";w0a=12".repeat(10) + ";r0", 80);
        dueError("w0a=1" + ";w0a=12".repeat(10) + ";w0a", 79);
        dueError("w0a=1" + ";w0a=12".repeat(10) + ";w0a=", 80);
        dueError("w0a=" + ";w0a=12".repeat(10) + ";w0a=-", 4);
        dueError("b0;b0;b0" + ";w0a=12".repeat(10) + ";w", 80);
        dueError("w0a=123" + ";w0a=12".repeat(10) + ";b0", NONE);
        dueError("w0a=12" + ";w0a=12".repeat(10) + ";b0", NONE);
        dueError("w0a=1" + ";r0a;b0".repeat(10) + ";c0;", 79);
        dueError("w0a=12" + ";r0a;b0".repeat(10) + ";c0;", 80);
    }

    /** The beginning of a schedule, and all characters that can come next. */
    private void dueNext(String begun, String next) {
        for (int code = 33; code <= 126; code++) {
            String text = begun + (char) code;
            x = new SnapshotRings();
            text(text);
            boolean possible = next.indexOf(code) >= 0;
            int error = x.syntaxError();
            due("syntaxError of " + text + " tells its last", error == begun.length() ? 1 : 0, possible ? 0 : 1);
            if (possible) {
                due("syntaxError of " + text, error == NONE || error == begun.length() + 1 ? 1 : 0, 1);
            }
            // The schedule can go on in the same way with any step before it.
            text("b0;w0a=-1;" + text);
            due("syntaxError behind others of " + text, x.syntaxError(), error == NONE ? NONE : error + 10);
        }
    }

    private void eachCharacter() {
        dueNext("", "brwca");
        for (String letter : new String[] {"b", "c", "a", "r", "w"}) {
            dueNext(letter, "01234567");
        }
        for (String step : new String[] {"b0", "b7", "c3", "a7", "r0a", "r7l"}) {
            dueNext(step, ";");
            dueNext(step + ";", "brwca");
        }
        dueNext("r7", "abcdefghijkl");
        dueNext("w0", "abcdefghijkl");
        dueNext("w0l", "=");
        dueNext("w0l=", "-" + DIGITS);
        dueNext("w0l=-", DIGITS);
        for (String sign : new String[] {"", "-"}) {
            dueNext("w0l=" + sign + "0", DIGITS + ";");
            dueNext("w0l=" + sign + "99", DIGITS + ";");
            dueNext("w0l=" + sign + "00", DIGITS + ";");
            dueNext("w0l=" + sign + "999", ";");
            dueNext("w0l=" + sign + "000", ";");
            dueNext("w0l=" + sign + "0;", "brwca");
        }
    }

    private void unfinishedText() {
        String[] texts = {"b", "c", "a", "r", "r0", "w", "w0", "w0a", "w0a=", "w0a=-", "b0;", "w0a=1;", "b0;c", "r0a;r0"};
        for (String text : texts) {
            dueError(text, text.length());
        }
        dueError("b0;".repeat(26) + "w0", 80);
        dueError("w0a=999;".repeat(10), 80);
    }

    private void emptyText() {
        due("at first", x.syntaxError(), 0);
        text("b0");
        x.clearText();
        due("behind clearText", x.syntaxError(), 0);
        text("b0");
        x.carryOut();
        due("behind carryOut", x.syntaxError(), 0);
    }

    private void schedules() {
        String[] texts = {"b0", "c7", "a3", "r0a", "r7l", "w0a=0", "w7l=-999", "w3c=07", "b0;b0", "w0a=1;w0a=12;w0a=123;c0",
            "w0a=-1;w0a=-12;w0a=-123;c0", "c0;a0;r0a;b0", FULL, "w0a=999;".repeat(9) + "w0a=-999"};
        for (String text : texts) {
            dueError(text, NONE);
            due("syntaxError again", x.syntaxError(), NONE);
            due("undo", x.undo(), NOT_POSSIBLE);
            due("count(1)", x.count(1), 0);
        }
    }

    private void leftToRight() {
        carry("b0;w0a=1;w0a=2;r0b;c0;b1;r1a;w1a=3;a1;b2");
        due("value(0)", x.value(0), 2);
        due("version(0)", x.version(0), 1);
        due("ofCommit(1, 1)", x.ofCommit(1, 1), 2);
        due("ofCommit(1, 2)", x.ofCommit(1, 2), 1);
        due("count(7)", x.count(7), 1);
        due("of(2, 0)", x.of(2, 0), 1);
        // One step alone, and as many as a text can have.
        carry("c2");
        due("count(0)", x.count(0), 2);
        carry(FULL);
        due("count(0)", x.count(0), 15);
        due("of(0, 0)", x.of(0, 0), 15);
    }

    /** Steps that end with the text, also with a full one, and that follow a longer text. */
    private void lastStep() {
        String[] full = {"b0" + ";w0a=1".repeat(13), "b0;w0a=123" + ";w0a=12".repeat(10),
            "b0" + ";w0a=12".repeat(10) + ";w0a=-12", "b0;c0;b0" + ";w0a=1".repeat(11) + ";w0a=7",
            "b0;b1" + ";w0a=12".repeat(9) + ";w0a=-345;a1"};
        int[] values = {1, 12, -12, 7, -345};
        for (int i = 0; i < full.length; i++) {
            x = new SnapshotRings();
            due("length of " + full[i], full[i].length(), 80);
            carry(full[i]);
            due("the last value of " + full[i], x.read(0, 0), values[i]);
        }
        // What is left of an earlier text belongs to no step.
        fresh("b0");
        carry("w0a=789;w0b=-56");
        carry("w0a=1");
        due("read(0, 0)", x.read(0, 0), 1);
        text("w0a=-234;b1");
        x.clearText();
        carry("w0a=-9");
        due("read(0, 0)", x.read(0, 0), -9);
        carry("w0a=56");
        due("read(0, 0)", x.read(0, 0), 56);
    }

    private void upToFirstError() {
        String[] wrong = {"b1", "r0a", "w0a=1", "c0", "a0"};
        for (String step : wrong) {
            fresh("b1");
            text(step + ";b7");
            due("the first one of " + step, x.carryOut(), 0);
            due("count(1)", x.count(1), 1);
            text("b6;" + step + ";b7");
            due("the second one of " + step, x.carryOut(), 1);
            due("count(1)", x.count(1), 2);
            due("of(6, 0)", x.of(6, 0), 0);
            due("of(7, 0)", x.of(7, 0), NO_SUCH);
            text("b5;r1a;" + step);
            due("the last one of " + step, x.carryOut(), 2);
            due("of(1, 1)", x.of(1, 1), 1);
        }
        // A refused commit returns no error code.
        for (int reason = 1; reason <= 3; reason++) {
            String[] ready = {"b0 b1 w0a=1 w1a=2 c0", SKEW + " c0", "b2 r2a b0 w0b=1 b1 r1b w1a=1 c2 c0"};
            fresh(ready[reason - 1]);
            x.setPolicy(2);
            text("c1;b1;c1");
            due("with a refused commit", x.carryOut(), 3);
            due("count(3 + reason)", x.count(3 + reason), 1);
        }
        // What begins in the schedule is there for the steps behind it.
        fresh("b1");
        text("c1;b1;b1;c1");
        due("a slot that is free again", x.carryOut(), 2);
        due("of(1, 0)", x.of(1, 0), 1);
    }

    private void textBecomesEmpty() {
        String[] texts = {"b0", "b0;b0;c0", "c5", FULL};
        int[] steps = {1, 0, 0, 0};
        for (int i = 0; i < texts.length; i++) {
            text(texts[i]);
            due("carryOut of " + texts[i], x.carryOut(), steps[i]);
            due("carryOut again", x.carryOut(), BAD_TEXT);
            due("clearText", x.clearText(), 0);
        }
    }

    private void oneState() {
        play("b7");
        carry("b0;r0a;w0b=1;c0;b0;r0b;w0c=2;b1");
        due("undo", x.undo(), 1);
        due("count(0)", x.count(0), 0);
        due("count(1)", x.count(1), 1);
        due("undo", x.undo(), 0);
        due("count(1)", x.count(1), 0);
        due("undo", x.undo(), NOT_POSSIBLE);
        // With six states saved it pushes out one.
        fresh("b1 b2 b3 b4 b5 b6");
        carry("b0;c0;b0;c0");
        due("states", drain(), 6);
        due("count(1)", x.count(1), 1);
    }

    private void oneStateWithoutStep() {
        text("c0;b0");
        due("carryOut", x.carryOut(), 0);
        due("undo", x.undo(), 0);
        due("undo", x.undo(), NOT_POSSIBLE);
        fresh("b1 b2");
        text("b1");
        due("carryOut", x.carryOut(), 0);
        due("undo", x.undo(), 2);
        due("count(1)", x.count(1), 2);
        due("states", drain(), 2);
    }

    private void numberOfSteps() {
        for (int steps = 1; steps <= 27; steps++) {
            x = new SnapshotRings();
            String text = FULL.substring(0, 3 * steps - 1);
            text(text);
            due("carryOut of " + text, x.carryOut(), steps);
            due("count(0)", x.count(0), steps / 2);
        }
        String[] all = {"b0", "r0a", "w0a=-99", "c0", "b0", "w0b=1", "a0", "b0"};
        int[] open = {0, 1, 1, 1, 0, 1, 1, 0, 1};
        for (int steps = 0; steps <= 8; steps++) {
            x = new SnapshotRings();
            StringBuilder text = new StringBuilder();
            for (int i = 0; i < steps; i++) {
                text.append(all[i]).append(';');
            }
            text(text + "c7;b7");
            due("carryOut of " + text + "c7;b7", x.carryOut(), steps);
            due("count(1)", x.count(1), open[steps]);
        }
    }

    private void textStays() {
        play("b0");
        long before = x.digest();
        String[] texts = {"", "b", "b1;", "b1;c1;x", "w0a=1234", "b1;" + "w0a=-12;".repeat(9) + "r0a!!"};
        for (String text : texts) {
            text(text);
            int error = x.syntaxError();
            due("carryOut of " + text, x.carryOut(), BAD_TEXT);
            due("carryOut again of " + text, x.carryOut(), BAD_TEXT);
            due("digest", x.digest(), before);
            due("syntaxError", x.syntaxError(), error);
            due("clearText", x.clearText(), text.length());
        }
        text("b1;");
        x.carryOut();
        typeOn(x, "c1");
        due("carryOut of the finished one", x.carryOut(), 2);
        due("states", drain(), 2);
    }

    private void restoresLast() {
        long[] digests = new long[8];
        for (int slot = 0; slot <= 7; slot++) {
            digests[slot] = x.digest();
            play("b" + slot);
        }
        for (int left = 5; left >= 0; left--) {
            due("undo", x.undo(), left);
            due("digest", x.digest(), digests[left + 2]);
        }
        due("undo", x.undo(), NOT_POSSIBLE);
        due("digest", x.digest(), digests[2]);
        // It is discarded: the next undo restores the one before it.
        play("b5 b6");
        due("undo", x.undo(), 1);
        play("b7");
        due("undo", x.undo(), 1);
        due("undo", x.undo(), 0);
        due("digest", x.digest(), digests[2]);
    }

    private void statesLeft() {
        for (int saved = 1; saved <= 9; saved++) {
            x = new SnapshotRings();
            for (int i = 0; i < saved; i++) {
                x.setPolicy(2);
            }
            for (int left = Math.min(saved, 6) - 1; left >= 0; left--) {
                due("undo behind " + saved, x.undo(), left);
            }
            due("undo behind all", x.undo(), NOT_POSSIBLE);
        }
    }

    private void nothingSaved() {
        due("undo of a new object", x.undo(), NOT_POSSIBLE);
        x.begin(9);
        x.type('b');
        x.clearText();
        due("undo behind calls that save nothing", x.undo(), NOT_POSSIBLE);
        play("b0");
        due("undo", x.undo(), 0);
        due("undo again", x.undo(), NOT_POSSIBLE);
        due("undo once more", x.undo(), NOT_POSSIBLE);
        play("b0");
        due("undo", x.undo(), 0);
    }

    /** The hash of the list that the document tells, in numbers of any length. */
    private static long hash(List<Integer> list) {
        BigInteger hash = BigInteger.valueOf(368);
        for (int number : list) {
            hash = hash.multiply(BigInteger.valueOf(31)).add(BigInteger.valueOf(number));
        }
        return hash.longValue();
    }

    private static void add(List<Integer> list, int... numbers) {
        for (int number : numbers) {
            list.add(number);
        }
    }

    private static void addTimes(List<Integer> list, int times, int number) {
        for (int i = 0; i < times; i++) {
            list.add(number);
        }
    }

    private void digestOfNewObject() {
        List<Integer> list = new ArrayList<>();
        addTimes(list, 8 + 24, 0);
        add(list, 0);
        addTimes(list, 16, NONE);
        add(list, 1, 1, 1);
        due("digest", x.digest(), hash(list));
        due("digest again", x.digest(), hash(list));
    }

    private void digestOfTransactions() {
        x.setPolicy(2);
        x.setConstraint(1, 2, 4);
        play("b6 b2 w6b=9 r2l w2b=3 b0 w0l=-5 b4 b5 a5");
        List<Integer> list = new ArrayList<>();
        add(list, 0, 4, 2, 0, 0, 0, 0, 1);
        addTimes(list, 24, 0);
        add(list, 0, 0, 0, 2048, 0, 1, 0, 1);
        add(list, 2, 0, 2048, 2, 0, 1, 0, 1);
        add(list, 4, 0, 0, 0, 0, 1, 0, 1);
        add(list, 6, 0, 0, 2, 0, 1, 1, 1);
        add(list, 0);
        addTimes(list, 16, NONE);
        add(list, 1, 0, 1);
        due("digest", x.digest(), hash(list));
        // One that would be refused: its number 3 is the reason.
        play("c2");
        list.clear();
        add(list, 1, 3, 2, 1, 0, 0, 0, 1, 0, 0, 3, 1);
        addTimes(list, 20, 0);
        add(list, 0, 0, 0, 2048, 0, 1, 0, 1);
        add(list, 4, 0, 0, 0, 0, 1, 0, 1);
        add(list, 6, 0, 0, 2, 1, 1, 1, 1);
        add(list, 1, 0, 2048, 2, 0, 1);
        addTimes(list, 15, NONE);
        add(list, 1, 0, 1);
        due("digest with a refused one", x.digest(), hash(list));
        // All eight slots.
        fresh("b0 b1 b2 b3 b4 b5 b6 b7");
        list.clear();
        add(list, 0, 8, 0, 0, 0, 0, 0, 0);
        addTimes(list, 24, 0);
        for (int slot = 0; slot <= 7; slot++) {
            add(list, slot, 0, 0, 0, 0, 1, 1, 1);
        }
        add(list, 0);
        addTimes(list, 16, NONE);
        add(list, 1, 1, 1);
        due("digest with eight open ones", x.digest(), hash(list));
    }

    private void digestOfCommits() {
        for (int number = 1; number <= 17; number++) {
            play("b0 r0c c0");
        }
        List<Integer> list = new ArrayList<>();
        add(list, 17, 0, 0, 16, 0, 0, 0, 0);
        addTimes(list, 24, 0);
        for (int number = 2; number <= 17; number++) {
            add(list, number, number - 1, 4, 0);
        }
        addTimes(list, 16 * 15, 0);
        add(list, 0);
        for (int number = 2; number <= 17; number++) {
            add(list, number);
        }
        add(list, 1, 1, 1);
        due("digest", x.digest(), hash(list));
    }

    private void digestOfPairs() {
        // 2 must come before 1 by 4, 1 before 3 by 1 and 2, and 2 before 3 by 4; 4 has no dependency.
        play("b0 w0a=1 b1 r1a w1b=1 c0 c1 b2 r2a w2a=2 c2 b2 c2");
        List<Integer> list = new ArrayList<>();
        add(list, 4, 0, 0, 4, 0, 0, 0, 0, 2, 3, 1, 2);
        addTimes(list, 20, 0);
        add(list, 1, 0, 0, 1, 2, 0, 1, 2, 3, 2, 1, 1, 4, 3, 0, 0);
        add(list, 0, 4, 3, 0, 0, 0, 4, 0, 0, 0, 0, 0);
        add(list, 0, 2, 1, 3, 4);
        addTimes(list, 12, NONE);
        add(list, 1, 1, 1);
        due("digest", x.digest(), hash(list));
    }

    private void digestOfOrders() {
        // With a ring each of the sixteen is NONE.
        play("b0 b1 r0a r1b w0b=1 w1a=2 c0 c1");
        List<Integer> list = new ArrayList<>();
        add(list, 2, 0, 0, 2, 0, 0, 0, 0, 2, 2, 1, 1);
        addTimes(list, 20, 0);
        add(list, 1, 0, 1, 2, 2, 0, 2, 1, 4, 4, 2);
        addTimes(list, 16, NONE);
        add(list, 1, 1, 1);
        due("digest", x.digest(), hash(list));
    }

    private void digestOfConstraints() {
        List<Integer> list = new ArrayList<>();
        x.setConstraint(0, 0, 1);
        x.setConstraint(2, 1, 1);
        addTimes(list, 8 + 24 + 1, 0);
        addTimes(list, 16, NONE);
        add(list, 0, 1, 0);
        due("digest", x.digest(), hash(list));
    }

    private void digestOverflows() {
        // Values below and above 0, in long lists: the hash wraps around many times.
        play("b0 w0a=-999 w0b=999 w0c=-999 c0");
        List<Integer> list = new ArrayList<>();
        add(list, 1, 0, 0, 1, 0, 0, 0, 0, -999, 1, 999, 1, -999, 1);
        addTimes(list, 18, 0);
        add(list, 1, 0, 0, 7, 0, 1);
        addTimes(list, 15, NONE);
        add(list, 1, 1, 1);
        due("digest", x.digest(), hash(list));
    }
}
