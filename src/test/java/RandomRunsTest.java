import java.util.Random;

/** The same runs of calls on SnapshotRings and on the naive store, which must answer the same. */
public final class RandomRunsTest {
    private static final int RUNS = 1200;
    // An object is used for at most so many calls; a round of the loop makes up to 8 of them, and a
    // schedule that is typed as many as there is room for.
    private static final int CALLS = 512;
    private static final int[] WILD = {Integer.MIN_VALUE, Integer.MAX_VALUE, -1, 0, 1, 2, 3, 4, 7, 8, 11,
        12, 31, 32, 33, 40, 79, 80, 126, 127, 255, 256, 998, 999, 1000, -999, -1000, 4095, 4096, 9999,
        10000, -9999, -10000, 1 << 30};

    private final Check check = new Check("RandomRunsTest");
    private final Random random;
    private final SnapshotRings store = new SnapshotRings();
    private final NaiveStore naive = new NaiveStore();
    private final int slots;
    private final int keys;
    private final int wildOf1000;
    private final int asksOf100;
    private final int textsOf100;
    private final int aimedOf100;
    private final int commitsOf100;
    // These slots commit seldom, so that their snapshots are old and their rings long.
    private final int slowSlots;
    // Then a slot writes one key alone, so that few are refused by the reason 1.
    private final boolean ownKeys;
    private final StringBuilder told = new StringBuilder();
    private int calls = 0;

    private RandomRunsTest(int seed) {
        random = new Random(seed);
        slots = 1 + random.nextInt(8);
        keys = 1 + random.nextInt(random.nextBoolean() ? 4 : 12);
        wildOf1000 = random.nextInt(4) * 15;
        asksOf100 = 10 + random.nextInt(50);
        textsOf100 = random.nextInt(3) * 2;
        aimedOf100 = random.nextInt(4) * 32;
        commitsOf100 = 10 + random.nextInt(50);
        slowSlots = random.nextInt(256) & random.nextInt(256);
        ownKeys = random.nextBoolean();
        check.part("run " + seed);
    }

    public static void main(String[] args) {
        int wrong = 0;
        for (int seed = 0; seed < RUNS && wrong == 0; seed++) {
            wrong += new RandomRunsTest(seed).run();
        }
        System.out.println("RandomRunsTest: " + RUNS + " runs of up to " + CALLS + " calls");
        if (wrong != 0) {
            System.exit(1);
        }
    }

    private int run() {
        while (calls < CALLS - 8 && check.wrong() == 0) {
            if (random.nextInt(100) < asksOf100) {
                ask();
            } else if (random.nextInt(100) < textsOf100) {
                typeSchedule();
            } else if (random.nextInt(100) < aimedOf100) {
                changeAimed();
            } else {
                change();
            }
        }
        due("digest()", store.digest(), naive.digest());
        if (check.wrong() != 0) {
            System.out.println(told);
        }
        return check.wrong();
    }

    private void due(String call, long got, long want) {
        calls++;
        told.append(call).append(" = ").append(want).append('\n');
        check.due(call, got, want);
    }

    private int argument(int bound) {
        return random.nextInt(1000) < wildOf1000 ? WILD[random.nextInt(WILD.length)] : random.nextInt(bound);
    }

    private int slot() {
        return argument(slots);
    }

    private int key() {
        return argument(keys);
    }

    private int commitNumber() {
        return argument(20) + Math.max(0, naive.count(0) - 18);
    }

    private void change() {
        int kind = random.nextInt(100);
        int slot = slot();
        int key = key();
        int value = argument(12) - 5;
        if (kind < 3) {
            int policy = argument(3);
            due("setPolicy(" + policy + ")", store.setPolicy(policy), naive.setPolicy(policy));
        } else if (kind < 6) {
            int constraint = argument(3);
            int mask = argument(4096);
            int least = argument(30) - 15;
            due("setConstraint(" + constraint + ", " + mask + ", " + least + ")",
                store.setConstraint(constraint, mask, least), naive.setConstraint(constraint, mask, least));
        } else if (kind < 30) {
            due("begin(" + slot + ")", store.begin(slot), naive.begin(slot));
        } else if (kind < 55) {
            due("read(" + slot + ", " + key + ")", store.read(slot, key), naive.read(slot, key));
        } else if (kind < 75) {
            due("write(" + slot + ", " + key + ", " + value + ")",
                store.write(slot, key, value), naive.write(slot, key, value));
        } else if (kind < 92) {
            due("commit(" + slot + ")", store.commit(slot), naive.commit(slot));
        } else if (kind < 94) {
            due("abort(" + slot + ")", store.abort(slot), naive.abort(slot));
        } else {
            due("undo()", store.undo(), naive.undo());
        }
    }

    /** A change that is possible: a free slot begins, an open one reads, writes or ends. */
    private void changeAimed() {
        int slot = random.nextInt(slots);
        int key = random.nextInt(keys);
        if (random.nextInt(60) == 0) {
            for (int times = random.nextInt(8); times >= 0; times--) {
                due("undo()", store.undo(), naive.undo());
            }
        } else if (naive.of(slot, 0) < 0) {
            due("begin(" + slot + ")", store.begin(slot), naive.begin(slot));
        } else if (random.nextInt(100) < commitsOf100) {
            if ((slowSlots >> slot & 1) == 0 || random.nextInt(12) == 0) {
                due("commit(" + slot + ")", store.commit(slot), naive.commit(slot));
            }
        } else if (random.nextInt(100) < 60) {
            due("read(" + slot + ", " + key + ")", store.read(slot, key), naive.read(slot, key));
        } else {
            int value = random.nextInt(12) - 5;
            key = ownKeys ? slot % keys : key;
            due("write(" + slot + ", " + key + ", " + value + ")",
                store.write(slot, key, value), naive.write(slot, key, value));
        }
    }

    private void ask() {
        int slot = slot();
        int what = argument(5);
        switch (random.nextInt(18)) {
            case 0 -> {
                int which = argument(9);
                due("count(" + which + ")", store.count(which), naive.count(which));
            }
            case 1 -> {
                int key = key();
                due("value(" + key + ")", store.value(key), naive.value(key));
            }
            case 2 -> {
                int key = key();
                due("version(" + key + ")", store.version(key), naive.version(key));
            }
            case 3, 4 -> due("of(" + slot + ", " + what + ")", store.of(slot, what), naive.of(slot, what));
            case 5 -> {
                int commit = commitNumber();
                due("ofCommit(" + commit + ", " + what + ")",
                    store.ofCommit(commit, what), naive.ofCommit(commit, what));
            }
            case 6, 7 -> {
                int a = commitNumber();
                int b = commitNumber();
                due("dependency(" + a + ", " + b + ")", store.dependency(a, b), naive.dependency(a, b));
            }
            case 8, 9 -> {
                int index = argument(6);
                due("ringOf(" + slot + ", " + index + ")",
                    store.ringOf(slot, index), naive.ringOf(slot, index));
            }
            case 10 -> due("inRings()", store.inRings(), naive.inRings());
            case 11 -> {
                int index = argument(18);
                due("orderAt(" + index + ")", store.orderAt(index), naive.orderAt(index));
            }
            case 12 -> due("skews()", store.skews(), naive.skews());
            case 13 -> {
                int constraint = argument(3);
                due("holds(" + constraint + ")", store.holds(constraint), naive.holds(constraint));
            }
            case 14 -> {
                int constraint = argument(3);
                due("holdsFor(" + slot + ", " + constraint + ")",
                    store.holdsFor(slot, constraint), naive.holdsFor(slot, constraint));
            }
            case 15 -> due("ifAllCommitted()", store.ifAllCommitted(), naive.ifAllCommitted());
            case 16 -> due("refusedBy(" + slot + ")", store.refusedBy(slot), naive.refusedBy(slot));
            default -> due("digest()", store.digest(), naive.digest());
        }
    }

    private void typeSchedule() {
        StringBuilder text = new StringBuilder();
        int steps = 1 + random.nextInt(10);
        for (int i = 0; i < steps; i++) {
            text.append(i == 0 ? "" : ";").append(step());
        }
        if (random.nextInt(4) == 0) {
            int place = random.nextInt(text.length());
            String signs = "brwca01789-=;amlxA~";
            text.setCharAt(place, signs.charAt(random.nextInt(signs.length())));
        }
        if (random.nextInt(8) == 0) {
            text.setLength(random.nextInt(text.length()) + 1);
        }
        for (int i = 0; i < text.length() && calls < CALLS - 6; i++) {
            int code = random.nextInt(4000) < wildOf1000 ? argument(128) : text.charAt(i);
            due("type(" + code + ")", store.type(code), naive.type(code));
            if (random.nextInt(10) == 0) {
                due("syntaxError()", store.syntaxError(), naive.syntaxError());
            }
        }
        due("syntaxError()", store.syntaxError(), naive.syntaxError());
        if (random.nextInt(20) != 0) {
            due("carryOut()", store.carryOut(), naive.carryOut());
        }
        if (random.nextInt(4) == 0) {
            due("clearText()", store.clearText(), naive.clearText());
        }
    }

    private String step() {
        char slot = (char) ('0' + random.nextInt(slots));
        char key = (char) ('a' + random.nextInt(keys));
        return switch (random.nextInt(6)) {
            case 0 -> "b" + slot;
            case 1, 2 -> "r" + slot + key;
            case 3 -> "w" + slot + key + "=" + value();
            case 4 -> "c" + slot;
            default -> random.nextInt(3) == 0 ? "a" + slot : "b" + slot;
        };
    }

    private String value() {
        String digits = Integer.toString(random.nextInt(1000));
        String padded = random.nextBoolean() ? digits : ("00" + digits).substring(digits.length() - 1);
        return (random.nextBoolean() ? "-" : "") + padded;
    }
}
