import java.io.IOException;
import java.lang.reflect.Field;
import java.lang.reflect.Method;
import java.lang.reflect.Modifier;
import java.nio.file.Files;
import java.nio.file.Path;
import java.util.ArrayList;
import java.util.Arrays;
import java.util.List;
import java.util.Random;
import java.util.Set;
import java.util.TreeSet;
import java.util.regex.Matcher;
import java.util.regex.Pattern;

/** The rules of LANGUAGE.md, as far as a test can see them. */
public final class RulesTest {
    private static final Path SOURCE = Path.of("src/main/java/QuantifierProofs.java");

    private static final List<Class<?>> CLASSES = new ArrayList<>();

    public static void main(String[] args) throws IOException {
        CLASSES.add(QuantifierProofs.class);
        CLASSES.addAll(Arrays.asList(QuantifierProofs.class.getDeclaredClasses()));
        classesInside();
        names();
        staticFields();
        noCallThrows();
        sizes();
        String code = code();
        library(code);
        leftOut(code);
        Checks.finish("RulesTest");
    }

    private static void classesInside() {
        Checks.sentence("Rule 1", "the classes inside it, which are private or package-visible and"
                + " static");
        for (Class<?> c : CLASSES.subList(1, CLASSES.size())) {
            int modifiers = c.getModifiers();
            Checks.due(c + " is static", Modifier.isStatic(modifiers), true);
            Checks.due(c + " is shown", Modifier.isPublic(modifiers), false);
            Checks.due(c + " is shown", Modifier.isProtected(modifiers), false);
        }
    }

    private static void names() {
        Checks.sentence("Rule 1", "No private method bears the name of a public one.");
        Set<String> shown = new TreeSet<>();
        for (Class<?> c : CLASSES) {
            for (Method m : c.getDeclaredMethods()) {
                if (Modifier.isPublic(m.getModifiers())) {
                    shown.add(m.getName());
                }
            }
        }
        for (Class<?> c : CLASSES) {
            for (Method m : c.getDeclaredMethods()) {
                if (Modifier.isPrivate(m.getModifiers())) {
                    Checks.due(m + " has a public name", shown.contains(m.getName()), false);
                }
            }
        }
    }

    private static void staticFields() {
        Checks.sentence("Rule 5", "Static fields are final");
        for (Class<?> c : CLASSES) {
            for (Field f : c.getDeclaredFields()) {
                if (Modifier.isStatic(f.getModifiers())) {
                    Checks.due(f + " is final", Modifier.isFinal(f.getModifiers()), true);
                    Checks.due(f + " is an int", f.getType() == int.class, true);
                }
            }
        }
    }

    // ---- no call throws

    private static final int OBJECTS = 300;
    private static final int TEXTS = 40;
    private static final int[] EDGES = {Integer.MIN_VALUE, Integer.MIN_VALUE + 1, -65536, -9, -8,
        -2, -1, 0, 1, 2, 7, 8, 9, 11, 12, 13, 23, 24, 25, 31, 32, 33, 199, 200, 201, 255, 256,
        65535, 65536, Integer.MAX_VALUE - 1, Integer.MAX_VALUE};
    private static final String[] OPENINGS = {"", "", "e 1 0 ", "a 8 7 6 5 0 e 4 3 2 1 0 ",
        "e 1 2 0 a 3 0 e 4 0 1 3 0 -1 -3 0 2 -4 0 ", "0 0 0 0 0 0 0 0 0 0 0 0 ", "r ", "s ",
        "s 1 0 0 2 0 0 3 0 0 4 0 0 5 0 0 6 0 0 7 0 0 8 0 0 9 0 0 10 0 0 11 0 0 12 0 0 13 0 0 ",
        "s 21 0 0 22 0 0 23 0 0 24 0 0 25 0 0 26 0 0 27 0 0 28 0 0 29 0 0 30 0 0 31 0 0 32 0 0 ",
        "r 1 1 3 0 0 2 -1 -3 0 0 3 1 0 1 0 4 -1 0 2 0 5 0 3 4 0 ", "s 1 1 2 3 0 0 2 1 2 0 1 0 "};
    private static final String[] WORDS = {"0", "0", "0", "1", "2", "3", "4", "-1", "-2", "-3",
        "8", "-8", "9", "99", "100", "999", "-999", "1000", "00", "-0", "-", "--1", "a", "e", "r",
        "s", "x", "+1", "~", "1-", "007"};

    private static int mostVariables = 0;
    private static int mostClauses = 0;
    private static int mostSteps = 0;

    private static void noCallThrows() {
        Checks.sentence("Rule 7", "No call may ever throw by itself (only by a throw statement) or"
                + " fail to end, for any arguments in any state");
        Random random = new Random(7);
        for (int i = 0; i < OBJECTS; i++) {
            QuantifierProofs x = new QuantifierProofs();
            String text = "";
            try {
                everyArgument(x);
                // These are more than 512 calls: later answers are free, but are answers.
                for (int n = 0; n < TEXTS; n++) {
                    text = anyText(random);
                    read(x, text, random.nextInt(5) < 2);
                    everyArgument(x);
                }
            } catch (RuntimeException | Error thrown) {
                Checks.fail("'" + text + "': " + thrown);
            }
        }
        everyCharacter();
        // Else the states would be too tame to tell anything.
        Checks.due("most variables seen", mostVariables, 8);
        Checks.due("most clauses seen", mostClauses, 12);
        Checks.due("most steps seen", mostSteps, 24);
    }

    private static String anyText(Random random) {
        StringBuilder text = new StringBuilder(OPENINGS[random.nextInt(OPENINGS.length)]);
        int words = random.nextInt(3) == 0 ? random.nextInt(120) : random.nextInt(8);
        for (int i = 0; i < words; i++) {
            text.append(WORDS[random.nextInt(WORDS.length)]);
            if (random.nextInt(20) != 0) {
                text.append(' ');
            }
            if (random.nextInt(60) == 0) {
                text.append((char) random.nextInt(0x10000));
            }
        }
        return text.toString();
    }

    private static void read(QuantifierProofs x, String text, boolean asFormula) {
        for (char c : text.toCharArray()) {
            x.type(c);
        }
        int answer = asFormula ? x.formula() : x.trace();
        int most = asFormula ? 0 : 24;
        within("reading '" + text + "'", answer, -5200, most);
    }

    private static void everyArgument(QuantifierProofs x) {
        within("variables", x.variables(), 0, 8);
        within("clauses", x.clauses(), 0, 12);
        within("steps", x.steps(), 0, 24);
        mostVariables = Math.max(mostVariables, x.variables());
        mostClauses = Math.max(mostClauses, x.clauses());
        mostSteps = Math.max(mostSteps, x.steps());
        within("empty", x.empty(), -1, 23);
        for (int i : EDGES) {
            within("variable", x.variable(i), -1, 18);
            within("clause", x.clause(i), -1, 0xFFFF);
            within("step", x.step(i), -1, 0x1FFFF);
            within("rests", x.rests(i), -1, 0xFFFFFF);
            within("play", x.play(i), 0, 511);
            boolean first = x.won(i, i);
            Checks.due("won(" + i + ", " + i + ") again", x.won(i, i), first);
            Checks.due("won with no such n", i >= 0 && i <= x.variables() || !first, true);
        }
    }

    private static void within(String call, int answer, int least, int most) {
        Checks.due(call + " answered " + answer, answer >= least && answer <= most, true);
    }

    private static void everyCharacter() {
        QuantifierProofs x = new QuantifierProofs();
        for (int c = 0; c <= 0xFFFF; c++) {
            boolean taken = x.type((char) c);
            Checks.due("type((char) " + c + ")", taken, c >= 32 && c <= 126);
        }
    }

    // ---- what the text may have in it

    private static void sizes() {
        Checks.sentence("Rule 11", "A method takes at most seven parameters.");
        for (Class<?> c : CLASSES) {
            for (Method m : c.getDeclaredMethods()) {
                Checks.due(m + " takes few", m.getParameterCount() <= 7, true);
            }
        }
        Checks.sentence("Rule 11", "the file has at most some twelve classes, and a class some"
                + " twenty fields beside its constants");
        Checks.due("classes: " + CLASSES.size(), CLASSES.size() <= 12, true);
        for (Class<?> c : CLASSES) {
            long fields = Arrays.stream(c.getDeclaredFields())
                    .filter(f -> !Modifier.isStatic(f.getModifiers())).count();
            Checks.due(c + " has " + fields, fields <= 20, true);
        }
    }

    /** The text of the class without comments and written characters. */
    private static String code() throws IOException {
        return Files.readString(SOURCE)
                .replaceAll("(?s)/\\*.*?\\*/", "")
                .replaceAll("//.*", "")
                .replaceAll("'[^']*'", "' '");
    }

    private static void library(String code) {
        Checks.sentence("Rule 4", "The library: only what stands here.");
        Checks.due("it has imports", code.contains("import "), false);
        Checks.due("it names a package", code.contains("java."), false);
        Matcher name = Pattern.compile("\\b[A-Z][a-z]\\w*").matcher(code);
        Set<String> own = new TreeSet<>(Arrays.asList("Integer"));
        CLASSES.forEach(c -> own.add(c.getSimpleName()));
        while (name.find()) {
            Checks.due("it uses " + name.group(), own.contains(name.group()), true);
        }
        Matcher call = Pattern.compile("\\bInteger(\\.\\w+)?").matcher(code);
        while (call.find()) {
            Checks.due(call.group(), call.group().equals("Integer.bitCount"), true);
        }
    }

    private static void leftOut(String code) {
        absent(code, "Rule 2", "no lambda, no method reference", "->", "::");
        absent(code, "Rule 5", "no static initialiser block", "static \\{");
        // The document tells no exception, so none is thrown and none is there to be caught.
        absent(code, "Rule 6", "A call of the face throws exactly what and where the document says,"
                + " and nothing else ever reaches its caller.", "\\bthrows?\\b", "\\btry\\b");
        absent(code, "Rule 6", "No synchronized, assert, switch with patterns, record patterns.",
                "\\bsynchronized\\b", "\\bassert\\b", "\\brecord\\b");
        absent(code, "Rule 7", "a divisor before it divides", "/", "%");
        absent(code, "Rule 7", "a reference against null before it is used", "\\bnull\\b");
    }

    private static void absent(String code, String rule, String words, String... patterns) {
        Checks.sentence(rule, words);
        for (String pattern : patterns) {
            boolean has = Pattern.compile(pattern).matcher(code).find();
            Checks.due("the class has " + pattern, has, false);
        }
    }
}
