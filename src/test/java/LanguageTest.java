import java.io.IOException;
import java.lang.reflect.Constructor;
import java.lang.reflect.Field;
import java.lang.reflect.Method;
import java.lang.reflect.Modifier;
import java.nio.file.Files;
import java.nio.file.Path;
import java.util.Arrays;
import java.util.Random;
import java.util.Set;
import java.util.TreeSet;
import java.util.regex.Pattern;

/** What LANGUAGE.md asks, as far as it can be seen from outside, and that no call ever throws. */
public final class LanguageTest {
    private static final Path SOURCE = Path.of("src/main/java/SnapshotRings.java");
    private static final String[] FACE = {
        "abort(int)", "begin(int)", "carryOut()", "clearText()", "commit(int)", "count(int)",
        "dependency(int,int)", "digest()", "holds(int)", "holdsFor(int,int)", "ifAllCommitted()",
        "inRings()", "of(int,int)", "ofCommit(int,int)", "orderAt(int)", "read(int,int)",
        "refusedBy(int)", "ringOf(int,int)", "setConstraint(int,int,int)", "setPolicy(int)", "skews()",
        "syntaxError()", "type(int)", "undo()", "value(int)", "version(int)", "write(int,int,int)"};
    private static final String[] CONSTANTS = {
        "BAD_TEXT", "BAD_VALUE", "LIMIT", "NONE", "NOT_POSSIBLE", "NO_SUCH"};
    private static final Check CHECK = new Check("LanguageTest");

    public static void main(String[] args) throws IOException {
        CHECK.part("the face");
        checkFace();
        CHECK.part("the source");
        checkSource(withoutTexts(Files.readString(SOURCE)));
        CHECK.part("calls that might throw");
        checkNothingThrown();
        CHECK.end();
    }

    private static void checkFace() {
        Class<?> type = SnapshotRings.class;
        CHECK.due("public final", type.getModifiers() & (Modifier.PUBLIC | Modifier.FINAL),
            Modifier.PUBLIC | Modifier.FINAL);
        Set<String> methods = new TreeSet<>();
        Set<String> names = new TreeSet<>();
        for (Method method : type.getDeclaredMethods()) {
            if (!Modifier.isPrivate(method.getModifiers())) {
                methods.add(method.getName() + Arrays.toString(method.getParameterTypes())
                    .replace("[", "(").replace("]", ")").replace(" ", ""));
                names.add(method.getName());
                Class<?> answer = method.getName().equals("digest") ? long.class : int.class;
                CHECK.due(method + " is public", Modifier.isPublic(method.getModifiers()) ? 1 : 0, 1);
                CHECK.due(method + " answers " + answer, method.getReturnType() == answer ? 1 : 0, 1);
            }
        }
        same("methods", methods, FACE);
        Set<String> constants = new TreeSet<>();
        for (Field field : type.getDeclaredFields()) {
            if (!Modifier.isPrivate(field.getModifiers())) {
                constants.add(field.getName());
                CHECK.due(field + " is constant", field.getModifiers(),
                    Modifier.PUBLIC | Modifier.STATIC | Modifier.FINAL);
            }
            checkStatic(field);
        }
        same("constants", constants, CONSTANTS);
        Constructor<?>[] constructors = type.getDeclaredConstructors();
        CHECK.due("constructors", constructors.length, 1);
        CHECK.due("constructor is public", constructors[0].getModifiers(), Modifier.PUBLIC);
        for (Class<?> inside : type.getDeclaredClasses()) {
            checkInside(inside, names);
        }
    }

    private static void same(String what, Set<String> got, String[] want) {
        if (!got.equals(new TreeSet<>(Arrays.asList(want)))) {
            CHECK.fail(what + " are " + got);
        }
    }

    private static void checkInside(Class<?> inside, Set<String> publicNames) {
        CHECK.due(inside + " is static", Modifier.isStatic(inside.getModifiers()) ? 1 : 0, 1);
        CHECK.due(inside + " is private", Modifier.isPrivate(inside.getModifiers()) ? 1 : 0, 1);
        int fields = 0;
        for (Field field : inside.getDeclaredFields()) {
            fields += Modifier.isStatic(field.getModifiers()) ? 0 : 1;
            checkStatic(field);
        }
        CHECK.due(inside + " has few fields", fields <= 20 ? 1 : 0, 1);
        for (Method method : inside.getDeclaredMethods()) {
            CHECK.due(method + " bears no public name", publicNames.contains(method.getName()) ? 1 : 0, 0);
            CHECK.due(method + " has few parameters", method.getParameterCount() <= 7 ? 1 : 0, 1);
        }
    }

    private static void checkStatic(Field field) {
        if (Modifier.isStatic(field.getModifiers())) {
            CHECK.due(field + " is final", Modifier.isFinal(field.getModifiers()) ? 1 : 0, 1);
        }
    }

    private static String withoutTexts(String source) {
        return source.replaceAll("(?s)/\\*.*?\\*/", "").replaceAll("//[^\n]*", "")
            .replaceAll("'(\\\\.|[^'\\\\])'", "' '").replaceAll("\"(\\\\.|[^\"\\\\])*\"", "\"\"");
    }

    private static void checkSource(String source) {
        String[] forbidden = {"\\bthrow\\b", "\\bthrows\\b", "\\btry\\b", "\\bcatch\\b", "\\bassert\\b",
            "\\bsynchronized\\b", "\\bpackage\\b", "\\bimport\\b", "->", "::", "\"", "\\bvar\\b", "Exact\\b",
            "\\bstatic\\s*\\{", "\\b(equals|hashCode|toString)\\b", "\\bObject\\b", "\\bprotected\\b"};
        for (String pattern : forbidden) {
            CHECK.due("use of " + pattern, Pattern.compile(pattern).matcher(source).find() ? 1 : 0, 0);
        }
        String rest = source.replaceAll("Integer\\.(bitCount|compare|max|min)", "")
            .replaceAll("Math\\.(min|max|abs|floorMod|floorDiv)", "").replaceAll("System\\.arraycopy", "");
        String outside = "\\b(Integer|Long|Math|System|Arrays|Character|String|List|Thread|Random)\\b";
        CHECK.due("use of the library", Pattern.compile(outside).matcher(rest).find() ? 1 : 0, 0);
        // Every new row or object is made in the initialiser of a field or in a constructor.
        for (String line : source.split("\n")) {
            if (line.contains("new ") && !line.matches(".*(final .* = new |^\\s+\\w+(\\[i\\])? = new ).*")) {
                CHECK.fail("a new object in " + line);
            }
        }
    }

    private static void checkNothingThrown() {
        Random random = new Random(1);
        int[] wild = {Integer.MIN_VALUE, Integer.MIN_VALUE + 1, Integer.MAX_VALUE, -1, 0, 1, 31, 32, 1 << 30};
        for (int run = 0; run < 20; run++) {
            SnapshotRings x = new SnapshotRings();
            int wildOf10 = run % 3 * 2;
            // More calls than an object is used for: what they answer is free, but they must answer.
            for (int call = 0; call < 20000; call++) {
                int[] given = new int[3];
                for (int i = 0; i < 3; i++) {
                    given[i] = random.nextInt(10) < wildOf10
                        ? wild[random.nextInt(wild.length)] : random.nextInt(14) - 1;
                }
                String made = "call " + call + " of run " + run;
                try {
                    makeCall(x, random.nextInt(27), given);
                } catch (RuntimeException | Error thrown) {
                    CHECK.fail(made + " threw " + thrown);
                    return;
                }
            }
        }
    }

    private static void makeCall(SnapshotRings x, int which, int[] given) {
        int a = given[0];
        int b = given[1];
        int c = given[2];
        switch (which) {
            case 0 -> x.setPolicy(a);
            case 1 -> x.setConstraint(a, b, c);
            case 2 -> x.begin(a);
            case 3 -> x.read(a, b);
            case 4 -> x.write(a, b, c);
            case 5 -> x.commit(a);
            case 6 -> x.abort(a);
            case 7 -> x.count(a);
            case 8 -> x.value(a);
            case 9 -> x.version(a);
            case 10 -> x.of(a, b);
            case 11 -> x.ofCommit(x.count(0) - a, b);
            case 12 -> x.dependency(x.count(0) - a, x.count(0) - b);
            case 13 -> x.ringOf(a, b);
            case 14 -> x.inRings();
            case 15 -> x.orderAt(a);
            case 16 -> x.skews();
            case 17 -> x.holds(a);
            case 18 -> x.holdsFor(a, b);
            case 19 -> x.ifAllCommitted();
            case 20 -> x.refusedBy(a);
            case 21 -> typeSome(x, a, b, c);
            case 22 -> x.clearText();
            case 23 -> x.syntaxError();
            case 24 -> x.carryOut();
            case 25 -> x.undo();
            default -> x.digest();
        }
    }

    private static void typeSome(SnapshotRings x, int a, int b, int c) {
        String signs = "brwca0123456789abcdefghijkl=-;~!";
        for (int place : new int[] {a, b, c}) {
            x.type(place >= 0 && place < signs.length() ? signs.charAt(place) : place);
        }
        String step = "b0;w0a=1;r0b;c0";
        for (int i = 0; i < step.length() && a > b; i++) {
            x.type(step.charAt(i));
        }
    }
}
