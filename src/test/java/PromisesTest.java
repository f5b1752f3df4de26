/** The promises 1 to 28, one method each: ordinary inputs, named edges, and wrong inputs. */
public final class PromisesTest {
    private static final int NO_SUCH = -20001;
    private static final int BAD_VALUE = -20002;
    private static final int NOT_POSSIBLE = -20003;
    private static final int LIMIT = -20004;
    private static final int BAD_TEXT = -20005;
    private static final int NONE = -20006;
    private static final int[] FAR_OUT = {Integer.MIN_VALUE, Integer.MAX_VALUE, -1000000, 1000000};
    private static final Check CHECK = new Check("PromisesTest");

    // Two that can each be right alone: the slots 0 and 1 read the keys 0 and 1 and write one each.
    private static final String SKEW = "b0;b1;r0a;r0b;r1a;r1b;w0a=-1;w1b=-1";
    // Slot 0 must come before slot 1 and that one before slot 2, in no ring.
    private static final String CHAIN = "b0;b1;b2;r0a;w1a=1;r1b;w2b=1";

    private SnapshotRings x = new SnapshotRings();

    public static void main(String[] args) {
        part("constants").constants();
        part("promise 1").newObject();
        part("promise 2").setPolicy();
        part("promise 3").setConstraint();
        part("promise 4").begin();
        part("promise 5").read();
        part("promise 5, versions").readRemembersVersions();
        part("promise 6").write();
        part("promise 7").commit();
        part("promise 7, reason 1").refusedByReason1();
        part("promise 7, reason 2").refusedByReason2();
        part("promise 7, reason 3").refusedByReason3();
        part("promise 7, order of reasons").reasonsInOrder();
        part("promise 7, oldest kept commit").oldestKeptCommit();
        part("promise 8").abort();
        part("promise 9").count();
        part("promise 10").value();
        part("promise 11").version();
        part("promise 12").of();
        part("promise 13").ofCommit();
        part("promise 14").dependency();
        part("promise 15").ringOf();
        part("promise 15, shortest and first").ringOfSeveral();
        part("promise 16").inRings();
        part("promise 17").orderAt();
        part("promise 18").skews();
        part("promise 19").holds();
        part("promise 20").holdsFor();
        part("promise 21").ifAllCommitted();
        part("promise 22").refusedBy();
        part("promise 23").type();
        part("promise 24").clearText();
        part("promise 25").syntaxError();
        part("promise 26").carryOut();
        part("promise 26, saved state").carryOutSavesOnce();
        part("promise 27").undo();
        part("promise 27, each method").undoOfEachMethod();
        part("promise 27, what is not saved").undoSavesNoMore();
        part("promise 28").digest();
        CHECK.end();
    }

    private static PromisesTest part(String name) {
        CHECK.part(name);
        return new PromisesTest();
    }

    private static void due(String call, long got, long want) {
        CHECK.due(call, got, want);
    }

    private void typeText(String text) {
        x.clearText();
        for (int i = 0; i < text.length(); i++) {
            due("type for " + text, x.type(text.charAt(i)), i + 1);
        }
    }

    /** Carries out all steps of the text. */
    private void play(String text) {
        typeText(text);
        due("carryOut of " + text, x.carryOut(), text.split(";").length);
    }

    private void fresh(String text) {
        x = new SnapshotRings();
        if (!text.isEmpty()) {
            play(text);
        }
    }

    private void constants() {
        due("NO_SUCH", SnapshotRings.NO_SUCH, -20001);
        due("BAD_VALUE", SnapshotRings.BAD_VALUE, -20002);
        due("NOT_POSSIBLE", SnapshotRings.NOT_POSSIBLE, -20003);
        due("LIMIT", SnapshotRings.LIMIT, -20004);
        due("BAD_TEXT", SnapshotRings.BAD_TEXT, -20005);
        due("NONE", SnapshotRings.NONE, -20006);
    }

    private void newObject() {
        for (int what = 0; what < 8; what++) {
            due("count", x.count(what), 0);
        }
        for (int key = 0; key < 12; key++) {
            due("value", x.value(key), 0);
            due("version", x.version(key), 0);
        }
        for (int slot = 0; slot < 8; slot++) {
            due("of", x.of(slot, 0), NO_SUCH);
        }
        for (int constraint = 0; constraint < 3; constraint++) {
            due("holds", x.holds(constraint), 1);
        }
        due("orderAt", x.orderAt(0), NONE);
        due("ifAllCommitted", x.ifAllCommitted(), 3);
        due("undo", x.undo(), NOT_POSSIBLE);
        due("clearText", x.clearText(), 0);
        SnapshotRings other = new SnapshotRings();
        other.begin(3);
        due("begin in another object", x.begin(3), 0);
    }

    private void setPolicy() {
        due("setPolicy(2)", x.setPolicy(2), 0);
        due("setPolicy(1)", x.setPolicy(1), 2);
        due("setPolicy(1)", x.setPolicy(1), 1);
        due("setPolicy(-1)", x.setPolicy(-1), BAD_VALUE);
        due("setPolicy(3)", x.setPolicy(3), BAD_VALUE);
        for (int far : FAR_OUT) {
            due("setPolicy(" + far + ")", x.setPolicy(far), BAD_VALUE);
        }
        due("count(2)", x.count(2), 1);
        due("setPolicy(0)", x.setPolicy(0), 1);
        due("count(2)", x.count(2), 0);
        due("undo", x.undo(), 3);
        due("undo", x.undo(), 2);
        due("undo", x.undo(), 1);
        due("count(2)", x.count(2), 2);
    }

    private void setConstraint() {
        due("setConstraint(0, 4095, 9999)", x.setConstraint(0, 4095, 9999), 0);
        due("setConstraint(0, 0, -9999)", x.setConstraint(0, 0, -9999), 9999);
        due("setConstraint(0, 1, 3)", x.setConstraint(0, 1, 3), -9999);
        due("setConstraint(2, 1, 5)", x.setConstraint(2, 1, 5), 0);
        due("setConstraint(3, 0, 0)", x.setConstraint(3, 0, 0), NO_SUCH);
        due("setConstraint(-1, 0, 0)", x.setConstraint(-1, 0, 0), NO_SUCH);
        due("setConstraint(3, -1, 10000)", x.setConstraint(3, -1, 10000), NO_SUCH);
        due("setConstraint(1, -1, 0)", x.setConstraint(1, -1, 0), BAD_VALUE);
        due("setConstraint(1, 4096, 0)", x.setConstraint(1, 4096, 0), BAD_VALUE);
        due("setConstraint(1, 0, 10000)", x.setConstraint(1, 0, 10000), BAD_VALUE);
        due("setConstraint(1, 0, -10000)", x.setConstraint(1, 0, -10000), BAD_VALUE);
        for (int far : FAR_OUT) {
            due("setConstraint(far)", x.setConstraint(far, 0, 0), NO_SUCH);
            due("setConstraint(1, far)", x.setConstraint(1, far, 0), BAD_VALUE);
            due("setConstraint(1, 0, far)", x.setConstraint(1, 0, far), BAD_VALUE);
        }
        due("holds(0)", x.holds(0), 0);
        due("holds(1)", x.holds(1), 1);
        due("setConstraint(1, 2, 7)", x.setConstraint(1, 2, 7), 0);
        due("undo", x.undo(), 4);
        due("setConstraint(1, 0, 0)", x.setConstraint(1, 0, 0), 0);
    }

    private void begin() {
        due("begin(0)", x.begin(0), 0);
        due("begin(7)", x.begin(7), 0);
        due("begin(0)", x.begin(0), NOT_POSSIBLE);
        due("begin(8)", x.begin(8), NO_SUCH);
        due("begin(-1)", x.begin(-1), NO_SUCH);
        for (int far : FAR_OUT) {
            due("begin(" + far + ")", x.begin(far), NO_SUCH);
        }
        due("begin(32)", x.begin(32), NO_SUCH);
        play("w0a=5;c0");
        due("begin(0)", x.begin(0), 1);
        due("of(0, 1)", x.of(0, 1), 0);
        due("of(0, 2)", x.of(0, 2), 0);
        due("read(0, 0)", x.read(0, 0), 5);
        due("of(7, 0)", x.of(7, 0), 0);
        due("begin(3)", x.begin(3), 1);
        due("undo", x.undo(), 5);
        due("begin(3)", x.begin(3), 1);
    }

    private void read() {
        play("b0;w0a=7;w0b=8;c0;b1;b2;w2a=9;w2l=3;c2;b3");
        due("read(1, 0)", x.read(1, 0), 7);
        due("read(1, 1)", x.read(1, 1), 8);
        due("read(1, 11)", x.read(1, 11), 0);
        due("read(3, 0)", x.read(3, 0), 9);
        due("read(3, 11)", x.read(3, 11), 3);
        due("of(1, 1)", x.of(1, 1), 1 + 2 + 2048);
        due("write(1, 2, -4)", x.write(1, 2, -4), 1);
        due("read(1, 2)", x.read(1, 2), -4);
        due("of(1, 1)", x.of(1, 1), 1 + 2 + 2048);
        due("write(1, 0, 6)", x.write(1, 0, 6), 2);
        due("read(1, 0)", x.read(1, 0), 6);
        due("of(1, 1)", x.of(1, 1), 1 + 2 + 2048);
        due("write(1, 2, -5)", x.write(1, 2, -5), 2);
        due("read(1, 2)", x.read(1, 2), -5);
        due("undo", x.undo(), 5);
        due("undo", x.undo(), 4);
        due("read(1, 2)", x.read(1, 2), -4);
        due("read(0, 0)", x.read(0, 0), NO_SUCH);
        due("read(8, 0)", x.read(8, 0), NO_SUCH);
        due("read(-1, 0)", x.read(-1, 0), NO_SUCH);
        due("read(1, 12)", x.read(1, 12), NO_SUCH);
        due("read(1, -1)", x.read(1, -1), NO_SUCH);
        for (int far : FAR_OUT) {
            due("read(far, 0)", x.read(far, 0), NO_SUCH);
            due("read(1, far)", x.read(1, far), NO_SUCH);
        }
        fresh("b0");
        due("read(0, 4)", x.read(0, 4), 0);
        due("of(0, 1)", x.of(0, 1), 16);
        due("undo", x.undo(), 1);
        due("of(0, 1)", x.of(0, 1), 0);
    }

    private void readRemembersVersions() {
        // The snapshot is 1 however many commits there are since.
        play("b0;w0a=4;c0;b1");
        for (int i = 0; i < 20; i++) {
            play("b0;w0a=" + i + ";c0");
        }
        due("read(1, 0)", x.read(1, 0), 4);
        due("of(1, 0)", x.of(1, 0), 1);
        due("commit(1)", x.commit(1), 22);
        for (int b = 7; b < 22; b++) {
            due("dependency(22, " + b + ")", x.dependency(22, b), 4);
            due("dependency(" + b + ", 22)", x.dependency(b, 22), 0);
        }
    }

    private void write() {
        play("b0;b1");
        due("write(0, 0, 999)", x.write(0, 0, 999), 1);
        due("write(0, 11, -999)", x.write(0, 11, -999), 2);
        due("write(0, 0, 1)", x.write(0, 0, 1), 2);
        due("of(0, 2)", x.of(0, 2), 2049);
        due("of(1, 2)", x.of(1, 2), 0);
        due("value(0)", x.value(0), 0);
        due("read(1, 0)", x.read(1, 0), 0);
        due("write(0, 1, 1000)", x.write(0, 1, 1000), BAD_VALUE);
        due("write(0, 1, -1000)", x.write(0, 1, -1000), BAD_VALUE);
        due("write(2, 1, 0)", x.write(2, 1, 0), NO_SUCH);
        due("write(2, 1, 1000)", x.write(2, 1, 1000), NO_SUCH);
        due("write(8, 1, 0)", x.write(8, 1, 0), NO_SUCH);
        due("write(-1, 1, 0)", x.write(-1, 1, 0), NO_SUCH);
        due("write(0, 12, 0)", x.write(0, 12, 0), NO_SUCH);
        due("write(0, -1, 1000)", x.write(0, -1, 1000), NO_SUCH);
        for (int far : FAR_OUT) {
            due("write(far)", x.write(far, 0, 0), NO_SUCH);
            due("write(0, far)", x.write(0, far, 0), NO_SUCH);
            due("write(0, 0, far)", x.write(0, 0, far), BAD_VALUE);
        }
        due("read(0, 0)", x.read(0, 0), 1);
        due("undo", x.undo(), 5);
        due("undo", x.undo(), 4);
        due("undo", x.undo(), 3);
        due("read(0, 0)", x.read(0, 0), 999);
        due("undo", x.undo(), 3);
        due("undo", x.undo(), 2);
        due("of(0, 2)", x.of(0, 2), 1);
    }

    private void commit() {
        play("b0;w0a=3;w0c=-4");
        due("commit(0)", x.commit(0), 1);
        due("value(0)", x.value(0), 3);
        due("value(2)", x.value(2), -4);
        due("version(2)", x.version(2), 1);
        due("commit(0)", x.commit(0), NO_SUCH);
        due("commit(8)", x.commit(8), NO_SUCH);
        due("commit(-1)", x.commit(-1), NO_SUCH);
        for (int far : FAR_OUT) {
            due("commit(far)", x.commit(far), NO_SUCH);
        }
        due("begin(1)", x.begin(1), 1);
        due("commit(1) without writes", x.commit(1), 2);
        due("count(0)", x.count(0), 2);
        due("count(1)", x.count(1), 0);
        due("version(0)", x.version(0), 1);
        due("undo", x.undo(), 3);
        due("count(0)", x.count(0), 1);
        due("of(1, 0)", x.of(1, 0), 1);
        due("commit(1)", x.commit(1), 2);
    }

    private void refusedByReason1() {
        for (int policy = 0; policy < 3; policy++) {
            fresh("b0;b1;b2;w0a=1;w1a=2;w2b=3;c0");
            x.setPolicy(policy);
            due("commit(1)", x.commit(1), -1);
            due("commit(2)", x.commit(2), 2);
            due("commit(1)", x.commit(1), NO_SUCH);
            due("value(0)", x.value(0), 1);
            due("count(0)", x.count(0), 2);
            due("count(4)", x.count(4), 1);
            due("count(7)", x.count(7), 0);
            due("begin(1)", x.begin(1), 2);
            due("undo", x.undo(), 4);
            due("undo", x.undo(), 3);
            due("undo", x.undo(), 2);
            due("count(4)", x.count(4), 0);
            due("of(1, 2)", x.of(1, 2), 1);
        }
    }

    private void refusedByReason2() {
        for (int policy = 0; policy < 3; policy++) {
            fresh(SKEW);
            x.setPolicy(policy);
            due("commit(0)", x.commit(0), 1);
            due("commit(1)", x.commit(1), policy == 0 ? 2 : -2);
            due("count(5)", x.count(5), policy == 0 ? 0 : 1);
            due("value(1)", x.value(1), policy == 0 ? -1 : 0);
            due("count(1)", x.count(1), 0);
            due("undo", x.undo(), 3);
            due("count(5) after undo", x.count(5), 0);
        }
    }

    private void refusedByReason3() {
        String[] orders = {"012", "021", "102", "120", "201", "210"};
        for (String order : orders) {
            for (int policy = 0; policy < 3; policy++) {
                fresh(CHAIN);
                x.setPolicy(policy);
                due("first of " + order, x.commit(order.charAt(0) - '0'), 1);
                due("second of " + order, x.commit(order.charAt(1) - '0'), 2);
                due("third of " + order, x.commit(order.charAt(2) - '0'), policy == 2 ? -3 : 3);
                due("count(6)", x.count(6), policy == 2 ? 1 : 0);
                due("inRings", x.inRings(), 0);
                due("undo", x.undo(), 4);
                due("count(6) after undo", x.count(6), 0);
            }
        }
        // The three are kept commits already: the next one is no part of them.
        fresh(CHAIN + ";c0;c1;c2;b3;r3c;w3d=1");
        x.setPolicy(2);
        due("commit(3)", x.commit(3), 4);
    }

    private void reasonsInOrder() {
        fresh(SKEW + ";w1a=4;c0");
        x.setPolicy(2);
        due("commit(1)", x.commit(1), -1);
        fresh(SKEW + ";c0");
        x.setPolicy(2);
        due("commit(1)", x.commit(1), -2);
    }

    private void oldestKeptCommit() {
        for (int more = 15; more <= 16; more++) {
            fresh("b0;b1;r0a;w0b=1;r1b;w1a=1;c1");
            x.setPolicy(1);
            for (int i = 0; i < more; i++) {
                play("b1;c1");
            }
            due("of(0, 3)", x.of(0, 3), more == 15 ? 2 : 0);
            due("ringOf(0, 1)", x.ringOf(0, 1), more == 15 ? 1 : NONE);
            due("commit(0)", x.commit(0), more == 15 ? -2 : 18);
        }
    }

    private void abort() {
        play("b0;w0a=1;w0b=2;w0a=3;b1");
        due("abort(0)", x.abort(0), 2);
        due("abort(0)", x.abort(0), NO_SUCH);
        due("abort(1)", x.abort(1), 0);
        due("abort(8)", x.abort(8), NO_SUCH);
        due("abort(-1)", x.abort(-1), NO_SUCH);
        for (int far : FAR_OUT) {
            due("abort(far)", x.abort(far), NO_SUCH);
        }
        due("count(7)", x.count(7), 2);
        due("count(1)", x.count(1), 0);
        due("count(0)", x.count(0), 0);
        due("value(0)", x.value(0), 0);
        due("undo", x.undo(), 2);
        due("undo", x.undo(), 1);
        due("count(7)", x.count(7), 0);
        due("read(0, 0)", x.read(0, 0), 3);
    }

    private void count() {
        due("count(-1)", x.count(-1), BAD_VALUE);
        due("count(8)", x.count(8), BAD_VALUE);
        for (int far : FAR_OUT) {
            due("count(far)", x.count(far), BAD_VALUE);
        }
        x.setPolicy(2);
        due("count(2)", x.count(2), 2);
        play(SKEW + ";c0;c1");
        play(CHAIN + ";c0;c1;c2");
        play("b0;b1;w0c=1;w1c=1;c1;c0");
        play("b0;b1;w0c=1;w1c=1;c1;c0");
        play("b0;b1;b2;a0;a1;a2;b4;b5");
        due("count(0)", x.count(0), 5);
        due("count(1)", x.count(1), 2);
        due("count(3)", x.count(3), 5);
        due("count(4)", x.count(4), 2);
        due("count(5)", x.count(5), 1);
        due("count(6)", x.count(6), 1);
        due("count(7)", x.count(7), 3);
        for (int i = 0; i < 15; i++) {
            play("b0;c0");
        }
        due("count(0)", x.count(0), 20);
        due("count(3)", x.count(3), 16);
    }

    private void value() {
        play("b0;w0a=-999;w0l=999;b1;w1b=5;c0");
        due("value(0)", x.value(0), -999);
        due("value(11)", x.value(11), 999);
        due("value(1)", x.value(1), 0);
        due("value(12)", x.value(12), NO_SUCH);
        due("value(-1)", x.value(-1), NO_SUCH);
        for (int far : FAR_OUT) {
            due("value(far)", x.value(far), NO_SUCH);
        }
        play("c1;b2;w2a=0;c2");
        due("value(0)", x.value(0), 0);
        due("value(1)", x.value(1), 5);
    }

    private void version() {
        play("b0;w0a=0;c0;b0;c0;b0;w0l=1;b1;w1b=5;c0");
        due("version(0)", x.version(0), 1);
        due("version(11)", x.version(11), 3);
        due("version(1)", x.version(1), 0);
        due("version(12)", x.version(12), NO_SUCH);
        due("version(-1)", x.version(-1), NO_SUCH);
        for (int far : FAR_OUT) {
            due("version(far)", x.version(far), NO_SUCH);
        }
        for (int i = 0; i < 20; i++) {
            play("b0;c0");
        }
        due("version(11)", x.version(11), 3);
    }

    private void of() {
        play("b0;c0;b2;r2a;r2c;w2b=1;w2c=2;r2b");
        due("of(2, 0)", x.of(2, 0), 1);
        due("of(2, 1)", x.of(2, 1), 5);
        due("of(2, 2)", x.of(2, 2), 6);
        due("of(2, 3)", x.of(2, 3), 0);
        due("of(2, 4)", x.of(2, 4), BAD_VALUE);
        due("of(2, -1)", x.of(2, -1), BAD_VALUE);
        due("of(1, 4)", x.of(1, 4), NO_SUCH);
        due("of(8, 0)", x.of(8, 0), NO_SUCH);
        due("of(-1, 0)", x.of(-1, 0), NO_SUCH);
        for (int far : FAR_OUT) {
            due("of(far, 0)", x.of(far, 0), NO_SUCH);
            due("of(2, far)", x.of(2, far), BAD_VALUE);
        }
        fresh("b0;b1;w0a=1;w1a=2;c0");
        due("of(1, 3)", x.of(1, 3), 1);
        due("of(1, 3) again", x.of(1, 3), 1);
        due("count(4)", x.count(4), 0);
        for (int policy = 0; policy < 3; policy++) {
            fresh(SKEW + ";c0");
            x.setPolicy(policy);
            due("of(1, 3) in a skew", x.of(1, 3), policy == 0 ? 0 : 2);
            fresh(CHAIN + ";c0;c1");
            x.setPolicy(policy);
            due("of(2, 3) in a chain", x.of(2, 3), policy == 2 ? 3 : 0);
        }
    }

    private void ofCommit() {
        play("b0;b1;r0l;w0a=1;c1;c0");
        due("ofCommit(2, 0)", x.ofCommit(2, 0), 0);
        due("ofCommit(2, 1)", x.ofCommit(2, 1), 2048);
        due("ofCommit(2, 2)", x.ofCommit(2, 2), 1);
        due("ofCommit(1, 1)", x.ofCommit(1, 1), 0);
        due("ofCommit(2, 3)", x.ofCommit(2, 3), BAD_VALUE);
        due("ofCommit(2, -1)", x.ofCommit(2, -1), BAD_VALUE);
        due("ofCommit(3, 9)", x.ofCommit(3, 9), NO_SUCH);
        due("ofCommit(0, 0)", x.ofCommit(0, 0), NO_SUCH);
        due("ofCommit(-1, 0)", x.ofCommit(-1, 0), NO_SUCH);
        for (int far : FAR_OUT) {
            due("ofCommit(far, 0)", x.ofCommit(far, 0), NO_SUCH);
            due("ofCommit(2, far)", x.ofCommit(2, far), BAD_VALUE);
        }
        for (int i = 3; i <= 17; i++) {
            play("b3;w3c=1;c3");
        }
        due("ofCommit(1, 0)", x.ofCommit(1, 0), NO_SUCH);
        due("ofCommit(2, 1)", x.ofCommit(2, 1), 2048);
        due("ofCommit(17, 0)", x.ofCommit(17, 0), 16);
        due("ofCommit(17, 2)", x.ofCommit(17, 2), 4);
        due("ofCommit(18, 0)", x.ofCommit(18, 0), NO_SUCH);
    }

    private void dependency() {
        // 1 writes a; 2 reads it and writes it; 3 reads a of before 1 and writes b; 4 reads b of 3.
        play("b3;r3a;b1;w1a=1;c1;b2;r2a;w2a=2;c2;w3b=1;c3;b4;r4b;w4c=1;c4");
        due("dependency(1, 2)", x.dependency(1, 2), 3);
        due("dependency(2, 1)", x.dependency(2, 1), 0);
        due("dependency(1, 3)", x.dependency(1, 3), 0);
        due("dependency(3, 1)", x.dependency(3, 1), 4);
        due("dependency(3, 2)", x.dependency(3, 2), 4);
        due("dependency(2, 3)", x.dependency(2, 3), 0);
        due("dependency(3, 4)", x.dependency(3, 4), 2);
        due("dependency(4, 3)", x.dependency(4, 3), 0);
        due("dependency(1, 4)", x.dependency(1, 4), 0);
        due("dependency(2, 2)", x.dependency(2, 2), BAD_VALUE);
        due("dependency(2, 5)", x.dependency(2, 5), NO_SUCH);
        due("dependency(5, 5)", x.dependency(5, 5), NO_SUCH);
        due("dependency(0, 1)", x.dependency(0, 1), NO_SUCH);
        due("dependency(1, -1)", x.dependency(1, -1), NO_SUCH);
        for (int far : FAR_OUT) {
            due("dependency(far, 1)", x.dependency(far, 1), NO_SUCH);
            due("dependency(1, far)", x.dependency(1, far), NO_SUCH);
        }
        // All three: 1 writes a and reads b, 2 reads a of 1 and writes a and b.
        fresh("b0;r0b;w0a=1;c0;b1;r1a;w1a=2;w1b=2;c1");
        due("dependency(1, 2)", x.dependency(1, 2), 7);
        due("dependency(2, 1)", x.dependency(2, 1), 0);
        // A version as of the snapshot is no read of it.
        fresh("b0;r0c;w0a=1;c0;b1;w1c=1;c1");
        due("dependency(1, 2)", x.dependency(1, 2), 4);
        // What a transaction reads and writes itself is no dependency on another commit.
        fresh("b0;r0a;w0a=1;c0;b0;w0b=1;r0b;c0;b1;w1b=2;c1");
        due("dependency(2, 3)", x.dependency(2, 3), 1);
        due("dependency(1, 2)", x.dependency(1, 2), 0);
        due("dependency(2, 1)", x.dependency(2, 1), 0);
        for (int i = 4; i <= 18; i++) {
            play("b0;c0");
        }
        due("dependency(2, 3)", x.dependency(2, 3), NO_SUCH);
        due("dependency(3, 2)", x.dependency(3, 2), NO_SUCH);
        due("dependency(3, 18)", x.dependency(3, 18), 0);
    }

    private void ringOf() {
        // The slots 0, 1 and 2 each read what the next one writes.
        play("b0;b1;b2;r0a;r1b;r2c;w0b=1;w1c=1;w2a=1;c0;c1");
        due("ringOf(2, 1)", x.ringOf(2, 1), 2);
        due("ringOf(2, 2)", x.ringOf(2, 2), 1);
        due("ringOf(2, 3)", x.ringOf(2, 3), NONE);
        due("ringOf(2, MAX)", x.ringOf(2, Integer.MAX_VALUE), NONE);
        due("ringOf(2, 0)", x.ringOf(2, 0), BAD_VALUE);
        due("ringOf(2, -1)", x.ringOf(2, -1), BAD_VALUE);
        due("ringOf(2, MIN)", x.ringOf(2, Integer.MIN_VALUE), BAD_VALUE);
        due("ringOf(0, 1)", x.ringOf(0, 1), NO_SUCH);
        due("ringOf(0, 0)", x.ringOf(0, 0), NO_SUCH);
        due("ringOf(8, 1)", x.ringOf(8, 1), NO_SUCH);
        due("ringOf(-1, 1)", x.ringOf(-1, 1), NO_SUCH);
        due("begin(4)", x.begin(4), 2);
        due("ringOf(4, 1)", x.ringOf(4, 1), NONE);
        // Open transactions are in no ring of another one.
        fresh(SKEW);
        due("ringOf(0, 1)", x.ringOf(0, 1), NONE);
        // A transaction that would be refused by the reason 1 can be in a ring, too.
        fresh("b0;r0a;w0a=1;b1;w1a=2;c1");
        due("ringOf(0, 1)", x.ringOf(0, 1), 1);
        due("ringOf(0, 2)", x.ringOf(0, 2), NONE);
        // A ring of kept commits alone is none of the transaction.
        fresh(SKEW + ";c0;c1;b2;r2a;w2c=1");
        due("ringOf(2, 1)", x.ringOf(2, 1), NONE);
    }

    private void ringOfSeveral() {
        // Commits 1 and 2 are each in a ring of two with slot 5, and of both the lower one is told.
        fresh("b5;b1;b2;r5a;r5b;w5c=1;w1a=1;w2b=1;r1c;r2c;c1;c2");
        due("ringOf(5, 1)", x.ringOf(5, 1), 1);
        due("ringOf(5, 2)", x.ringOf(5, 2), NONE);
        // A ring of three with 1 and 2 and one of two with 3: the shorter one is told.
        fresh("b5;b1;b2;b3;r5b;r2a;r1d;w5d=1;w1a=1;w2b=1;r5c;w3c=1;r3d;c1;c2;c3");
        due("ringOf(5, 1)", x.ringOf(5, 1), 3);
        due("ringOf(5, 2)", x.ringOf(5, 2), NONE);
        // Rings of three by 3 and 1, by 3 and 2, and by 4 and 1: the lower number first.
        fresh("b5;b1;b2;b3;b4;r5a;r5b;w3a=1;w4b=1;r3c;r3d;r4c;w1c=1;w2d=1");
        play("r1e;r2e;w5e=1;c1;c2;c3;c4");
        due("ringOf(5, 1)", x.ringOf(5, 1), 3);
        due("ringOf(5, 2)", x.ringOf(5, 2), 1);
        due("ringOf(5, 3)", x.ringOf(5, 3), NONE);
    }

    private void inRings() {
        play(SKEW + ";c0");
        due("inRings", x.inRings(), 0);
        play("c1;b2;r2a;c2");
        due("inRings", x.inRings(), 2);
        play("b0;b1;b2;r0d;r1e;r2f;w0e=1;w1f=1;w2d=1;c0;c1;c2");
        due("inRings", x.inRings(), 5);
        for (int i = 0; i < 11; i++) {
            play("b7;c7");
        }
        // The commit 1 is not kept any more, and the ring of two with it.
        due("inRings", x.inRings(), 3);
    }

    private void orderAt() {
        play("b0;r0a;b1;w1a=1;c1;c0;b2;c2");
        due("orderAt(0)", x.orderAt(0), 2);
        due("orderAt(1)", x.orderAt(1), 1);
        due("orderAt(2)", x.orderAt(2), 3);
        due("orderAt(3)", x.orderAt(3), NONE);
        due("orderAt(-1)", x.orderAt(-1), BAD_VALUE);
        due("orderAt(MAX)", x.orderAt(Integer.MAX_VALUE), NONE);
        due("orderAt(MIN)", x.orderAt(Integer.MIN_VALUE), BAD_VALUE);
        // 4 must come before 1, and 2 and 3 need not wait: the order is 2, 3, 4, 1.
        fresh("b0;r0a;b1;w1a=1;c1;b2;w2b=1;c2;b3;w3c=1;c3;c0");
        due("orderAt(0)", x.orderAt(0), 2);
        due("orderAt(1)", x.orderAt(1), 3);
        due("orderAt(2)", x.orderAt(2), 4);
        due("orderAt(3)", x.orderAt(3), 1);
        // When the ring has gone, there is an order of the others.
        fresh(SKEW + ";c0;c1");
        for (int i = 3; i <= 16; i++) {
            play("b0;c0");
        }
        due("orderAt(0)", x.orderAt(0), NONE);
        due("orderAt(15)", x.orderAt(15), NONE);
        play("b0;c0");
        due("orderAt(0)", x.orderAt(0), 2);
        due("orderAt(15)", x.orderAt(15), 17);
        due("orderAt(16)", x.orderAt(16), NONE);
    }

    private void skews() {
        play(SKEW + ";c0");
        due("skews", x.skews(), 0);
        play("c1");
        due("skews", x.skews(), 1);
        play("b0;b1;b2;r0d;r1d;r2d;r0e;r1e;r2e;r0f;r1f;r2f;w0d=1;w1e=1;w2f=1");
        play("c0;c1;c2");
        due("skews", x.skews(), 4);
        // A ring of three without a pair.
        fresh("b0;b1;b2;r0a;r1b;r2c;w0b=1;w1c=1;w2a=1;c0;c1;c2");
        due("skews", x.skews(), 0);
    }

    private void holds() {
        x.setConstraint(0, 1 + 2048, 5);
        x.setConstraint(1, 2, -3);
        x.setConstraint(2, 0, 1);
        due("holds(0)", x.holds(0), 0);
        due("holds(1)", x.holds(1), 1);
        due("holds(2)", x.holds(2), 0);
        play("b0;w0a=7;w0l=-2;w0b=-3;w0c=99;b1;w1a=-9");
        due("holds(0)", x.holds(0), 0);
        play("c0");
        due("holds(0)", x.holds(0), 1);
        due("holds(1)", x.holds(1), 1);
        play("b2;w2a=6;w2b=-4;c2");
        due("holds(0)", x.holds(0), 0);
        due("holds(1)", x.holds(1), 0);
        due("holds(3)", x.holds(3), NO_SUCH);
        due("holds(-1)", x.holds(-1), NO_SUCH);
        for (int far : FAR_OUT) {
            due("holds(far)", x.holds(far), NO_SUCH);
        }
        fresh("b0;w0a=999;w0b=999;w0c=999;w0d=999;w0e=999;w0f=999");
        play("w0g=999;w0h=999;w0i=999;w0j=999;w0k=999;w0l=999;c0");
        x.setConstraint(0, 4095, 9999);
        due("holds(0)", x.holds(0), 1);
    }

    private void holdsFor() {
        x.setConstraint(0, 3, 5);
        play("b0;w0a=3;c0;b1;w1b=2;b2;w2a=5;c2;b3;w3b=-1");
        due("holdsFor(1, 0)", x.holdsFor(1, 0), 1);
        due("holdsFor(3, 0)", x.holdsFor(3, 0), 0);
        due("write(1, 1, 1)", x.write(1, 1, 1), 1);
        due("holdsFor(1, 0)", x.holdsFor(1, 0), 0);
        due("holds(0)", x.holds(0), 1);
        due("holdsFor(1, 1)", x.holdsFor(1, 1), 1);
        due("holdsFor(1, 3)", x.holdsFor(1, 3), NO_SUCH);
        due("holdsFor(1, -1)", x.holdsFor(1, -1), NO_SUCH);
        due("holdsFor(0, 0)", x.holdsFor(0, 0), NO_SUCH);
        due("holdsFor(8, 0)", x.holdsFor(8, 0), NO_SUCH);
        due("holdsFor(-1, 0)", x.holdsFor(-1, 0), NO_SUCH);
        for (int far : FAR_OUT) {
            due("holdsFor(far, 0)", x.holdsFor(far, 0), NO_SUCH);
            due("holdsFor(1, far)", x.holdsFor(1, far), NO_SUCH);
        }
    }

    private void ifAllCommitted() {
        for (int policy = 0; policy < 3; policy++) {
            fresh("b7;w7a=1;w7b=1;c7;" + SKEW);
            x.setPolicy(policy);
            x.setConstraint(0, 3, 0);
            x.setConstraint(1, 1, 0);
            x.setConstraint(2, 4, 1);
            long before = x.digest();
            due("holdsFor(0, 0)", x.holdsFor(0, 0), 1);
            due("holdsFor(1, 0)", x.holdsFor(1, 0), 1);
            due("ifAllCommitted", x.ifAllCommitted(), policy == 0 ? 0 : 1);
            due("ifAllCommitted again", x.ifAllCommitted(), policy == 0 ? 0 : 1);
            due("digest", x.digest(), before);
            due("undo", x.undo(), 4);
        }
        // By ascending slots: the lower slot's write stands, and the other one is refused.
        fresh("b5;b2;w5a=1;w2a=-1");
        x.setConstraint(0, 1, 0);
        due("ifAllCommitted", x.ifAllCommitted(), 2);
        fresh("b5;b2;w2a=1;w5a=-1");
        x.setConstraint(0, 1, 0);
        due("ifAllCommitted", x.ifAllCommitted(), 3);
    }

    private void refusedBy() {
        play(SKEW);
        due("refusedBy(1)", x.refusedBy(1), NONE);
        play("c0");
        due("refusedBy(1)", x.refusedBy(1), 1);
        x.setPolicy(2);
        due("refusedBy(1) in the policy 2", x.refusedBy(1), 1);
        due("refusedBy(0)", x.refusedBy(0), NO_SUCH);
        due("refusedBy(8)", x.refusedBy(8), NO_SUCH);
        due("refusedBy(-1)", x.refusedBy(-1), NO_SUCH);
        for (int far : FAR_OUT) {
            due("refusedBy(far)", x.refusedBy(far), NO_SUCH);
        }
        due("write(1, 0, 0)", x.write(1, 0, 0), 2);
        due("refusedBy(1)", x.refusedBy(1), 0);
        fresh(CHAIN + ";c1");
        due("refusedBy(0)", x.refusedBy(0), NONE);
        play("c2");
        due("refusedBy(0)", x.refusedBy(0), 2);
        due("count(6)", x.count(6), 0);
    }

    private void type() {
        due("type(32)", x.type(32), BAD_VALUE);
        due("type(127)", x.type(127), BAD_VALUE);
        for (int far : FAR_OUT) {
            due("type(far)", x.type(far), BAD_VALUE);
        }
        due("type(65536 + 98)", x.type(65536 + 98), BAD_VALUE);
        for (int i = 0; i < 80; i++) {
            due("type", x.type(i % 2 == 0 ? 33 : 126), i + 1);
        }
        due("type(98)", x.type(98), LIMIT);
        due("type(32)", x.type(32), BAD_VALUE);
        due("undo", x.undo(), NOT_POSSIBLE);
        due("clearText", x.clearText(), 80);
        due("type(98)", x.type(98), 1);
    }

    private void clearText() {
        due("clearText", x.clearText(), 0);
        typeText("b0;c");
        due("clearText", x.clearText(), 4);
        due("clearText", x.clearText(), 0);
        due("syntaxError", x.syntaxError(), 0);
        typeText("b3");
        due("syntaxError", x.syntaxError(), NONE);
        due("undo", x.undo(), NOT_POSSIBLE);
        due("carryOut", x.carryOut(), 1);
        due("clearText", x.clearText(), 0);
    }

    private void syntax(String text, int want) {
        x = new SnapshotRings();
        typeText(text);
        due("syntaxError of " + text, x.syntaxError(), want);
        due("syntaxError again of " + text, x.syntaxError(), want);
    }

    private void syntaxError() {
        due("syntaxError of no text", x.syntaxError(), 0);
        String[] schedules = {"b0", "b7", "c3", "a5", "r0a", "r7l", "w0a=0", "w7l=-999", "w1b=12",
            "w1b=-00", "w1b=007", "b0;r0a;w0a=-1;c0", "w0a=1;b0", "w0a=12;b0", "w0a=123;b0"};
        for (String text : schedules) {
            syntax(text, NONE);
        }
        String[] unfinished = {"b", "c", "a", "r", "r0", "w", "w0", "w0a", "w0a=", "w0a=-", "b0;", "w0a=1;"};
        for (String text : unfinished) {
            syntax(text, text.length());
        }
        String[] wrongAtLast = {"x", "d", "B", "0", ";", "=", "-", "b8", "b/", "b:", "ba", "b;", "c8", "a8",
            "aa", "r8", "ra", "r0m", "r0`", "r00", "r0A", "r0;", "w8", "w0m", "w0=", "w0a0", "w0a-",
            "w0a;", "w0a=;", "w0a=a", "w0a=--", "w0a=-;", "w0a=-a", "w0a=1-", "w0a=1a", "w0a=12-",
            "w0a=1234", "w0a=-1234", "w0a=0000", "b00", "b0b", "b0a", "r0ab", "r0a=", "c0=", "b0;;",
            "b0;0", "b0;x", "b0,", "w0a=/", "w0a=:", "w0a=+"};
        for (String text : wrongAtLast) {
            syntax(text, text.length() - 1);
            syntax("r1c;" + text, text.length() + 3);
            syntax(text + "b0", text.length() - 1);
        }
        // A text of 80 characters that a longer one could go on with.
        String full = "b0;b0;b0;b0;b0;b0;b0;b0;b0;b0;b0;b0;b0;b0;b0;b0;b0;b0;b0;b0;b0;b0;b0;b0;b0;b0;b0";
        syntax(full, NONE);
        syntax(full.substring(0, 72) + "w0a=-12;", 80);
        due("undo", x.undo(), NOT_POSSIBLE);
    }

    private void carryOut() {
        due("carryOut of no text", x.carryOut(), BAD_TEXT);
        typeText("b0;");
        due("carryOut", x.carryOut(), BAD_TEXT);
        due("undo", x.undo(), NOT_POSSIBLE);
        due("clearText", x.clearText(), 3);
        typeText("b0;w0l=-042;r0a;c0;b1;r1l;w1a=7;a1;b2");
        due("carryOut", x.carryOut(), 9);
        due("clearText", x.clearText(), 0);
        due("value(11)", x.value(11), -42);
        due("value(0)", x.value(0), 0);
        due("ofCommit(1, 1)", x.ofCommit(1, 1), 1);
        due("count(7)", x.count(7), 1);
        due("of(2, 0)", x.of(2, 0), 1);
        String[] stopped = {"b2;b3", "b3;b3;b4", "c3;b3", "a3", "r3a;b3", "w3a=1;b3", "b3;r4a;c3",
            "b3;c3;c3;b4", "b3;a3;w3a=1"};
        int[] steps = {0, 1, 0, 0, 0, 0, 1, 2, 2};
        for (int i = 0; i < stopped.length; i++) {
            typeText(stopped[i]);
            due("carryOut of " + stopped[i], x.carryOut(), steps[i]);
            due("clearText", x.clearText(), 0);
            due("undo", x.undo(), 1);
        }
        // A refused commit is carried out, and the steps behind it, too.
        fresh("b0;b1;w0a=1;w1a=2;c0;c1;b1");
        due("count(4)", x.count(4), 1);
        due("of(1, 0)", x.of(1, 0), 1);
        fresh("b0;w0a=-1;w0b=-12;w0c=-123;w0d=1;w0e=12;w0f=123;w0g=000;c0");
        int[] values = {-1, -12, -123, 1, 12, 123, 0};
        for (int key = 0; key < values.length; key++) {
            due("value", x.value(key), values[key]);
        }
        due("version(6)", x.version(6), 1);
        // A text of 80 characters.
        fresh("b0;c0;".repeat(13) + "b0");
        due("count(0)", x.count(0), 13);
        due("of(0, 0)", x.of(0, 0), 13);
    }

    private void carryOutSavesOnce() {
        play("b0;w0a=1;c0");
        typeText("c0");
        due("carryOut without a step", x.carryOut(), 0);
        due("undo", x.undo(), 1);
        due("undo", x.undo(), 0);
        due("count(0)", x.count(0), 0);
        due("of(0, 0)", x.of(0, 0), NO_SUCH);
        due("undo", x.undo(), NOT_POSSIBLE);
    }

    private void undo() {
        due("undo", x.undo(), NOT_POSSIBLE);
        long[] digests = new long[8];
        for (int slot = 0; slot < 8; slot++) {
            digests[slot] = x.digest();
            due("begin", x.begin(slot), 0);
        }
        for (int left = 5; left >= 0; left--) {
            due("undo", x.undo(), left);
            due("digest", x.digest(), digests[left + 2]);
        }
        due("undo", x.undo(), NOT_POSSIBLE);
        due("count(1)", x.count(1), 2);
        // A state that was discarded does not come back.
        play("b5;c5");
        due("undo", x.undo(), 0);
        due("undo", x.undo(), NOT_POSSIBLE);
        // The text is no part of the state.
        typeText("b6");
        due("begin(4)", x.begin(4), 0);
        due("undo", x.undo(), 0);
        due("clearText", x.clearText(), 2);
    }

    private void undoOfEachMethod() {
        play("b0;w0a=1;c0;b1;b2;r1b;w1a=3;w2a=2");
        x.setConstraint(1, 5, 6);
        for (int method = 0; method < 9; method++) {
            long before = x.digest();
            switch (method) {
                case 0 -> x.setPolicy(2);
                case 1 -> x.setConstraint(1, 0, -3);
                case 2 -> x.begin(4);
                case 3 -> x.read(1, 2);
                case 4 -> x.write(1, 0, 9);
                case 5 -> x.commit(1);
                case 6 -> x.abort(1);
                case 7 -> play("c1;c2;b0;b1");
                default -> {
                    x.commit(1);
                    x.commit(2);
                    due("undo", x.undo(), 3);
                }
            }
            due("digest is another one after " + method, x.digest() != before ? 1 : 0, 1);
            due("undo of " + method, x.undo(), 2);
            due("digest after undo of " + method, x.digest(), before);
        }
        due("setConstraint", x.setConstraint(1, 0, 0), 6);
    }

    private void undoSavesNoMore() {
        x.setPolicy(1);
        x.setPolicy(3);
        x.setConstraint(3, 0, 0);
        x.begin(8);
        x.read(0, 0);
        x.write(0, 0, 0);
        x.commit(0);
        x.abort(0);
        x.type(98);
        x.carryOut();
        x.clearText();
        x.digest();
        x.ifAllCommitted();
        due("undo", x.undo(), 0);
        due("count(2)", x.count(2), 0);
        // What changes nothing is saved, too, if it returns no error code.
        due("setPolicy(0)", x.setPolicy(0), 0);
        due("begin(0)", x.begin(0), 0);
        due("write(0, 0, 1)", x.write(0, 0, 1), 1);
        due("read(0, 0)", x.read(0, 0), 1);
        due("undo", x.undo(), 3);
        due("undo", x.undo(), 2);
        due("of(0, 2)", x.of(0, 2), 0);
        due("undo", x.undo(), 1);
        due("undo", x.undo(), 0);
    }

    private void digest() {
        due("digest of a new object", x.digest(), digestByQuestions());
        fresh("b0;r0a;w0b=1;b1;w1a=2;c1;c0;b0;w0c=1;r0a;b7");
        due("digest without a ring", x.digest(), digestByQuestions());
        fresh("b0;w0a=-5;c0;" + SKEW + ";c0;c1");
        x.setConstraint(0, 3, 1);
        x.setConstraint(2, 1, -1);
        due("digest with a ring", x.digest(), digestByQuestions());
        play("b7;r7a;w7c=3;b3;w3a=1;b4;w4a=2;r4d;c3");
        due("digest with open transactions", x.digest(), digestByQuestions());
        x.setPolicy(2);
        due("digest in the policy 2", x.digest(), digestByQuestions());
        fresh(SKEW + ";c0;c1;b7;r7a");
        for (int i = 0; i < 15; i++) {
            x.begin(0);
            x.read(0, 0);
            x.write(0, 1, i);
            x.commit(0);
        }
        due("digest with 16 kept commits", x.digest(), digestByQuestions());
        due("digest again", x.digest(), x.digest());
    }

    private long digestByQuestions() {
        long hash = 368;
        for (int what = 0; what < 8; what++) {
            hash = 31 * hash + x.count(what);
        }
        for (int key = 0; key < 12; key++) {
            hash = 31 * hash + x.value(key);
            hash = 31 * hash + x.version(key);
        }
        for (int slot = 0; slot < 8; slot++) {
            if (x.of(slot, 0) != NO_SUCH) {
                hash = 31 * hash + slot;
                for (int what = 0; what < 4; what++) {
                    hash = 31 * hash + x.of(slot, what);
                }
                for (int constraint = 0; constraint < 3; constraint++) {
                    hash = 31 * hash + x.holdsFor(slot, constraint);
                }
            }
        }
        int latest = x.count(0);
        int first = latest - x.count(3) + 1;
        for (int commit = first; commit <= latest; commit++) {
            hash = 31 * hash + commit;
            for (int what = 0; what < 3; what++) {
                hash = 31 * hash + x.ofCommit(commit, what);
            }
        }
        for (int a = first; a <= latest; a++) {
            for (int b = a + 1; b <= latest; b++) {
                hash = 31 * hash + x.dependency(a, b);
                hash = 31 * hash + x.dependency(b, a);
            }
        }
        hash = 31 * hash + x.inRings();
        for (int index = 0; index < 16; index++) {
            hash = 31 * hash + x.orderAt(index);
        }
        for (int constraint = 0; constraint < 3; constraint++) {
            hash = 31 * hash + x.holds(constraint);
        }
        return hash;
    }
}
