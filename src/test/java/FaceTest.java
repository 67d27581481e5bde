import java.lang.reflect.Constructor;
import java.lang.reflect.Field;
import java.lang.reflect.Method;
import java.lang.reflect.Modifier;
import java.util.Arrays;
import java.util.Set;
import java.util.TreeSet;

/** The public face of the document, and nothing beside it. */
public final class FaceTest {
    private static final Set<String> FACE = new TreeSet<>(Arrays.asList(
            "int BAD", "int SYNTAX", "int NAME", "int TWICE", "int MANY", "int FALSE",
            "new []",
            "boolean type[char]", "int formula[]", "int trace[]", "int variables[]",
            "int variable[int]", "int clauses[]", "int clause[int]", "int steps[]",
            "int step[int]", "int rests[int]", "int empty[]", "boolean won[int, int]",
            "int play[int]"));

    public static void main(String[] args) {
        constants();
        members();
        lastCalls();
        Checks.finish("FaceTest");
    }

    private static void constants() {
        Checks.sentence("The public face", "public static final int BAD = -1;");
        Checks.due("BAD", QuantifierProofs.BAD, -1);
        Checks.sentence("Terms",
                "`SYNTAX = 1, NAME = 2, TWICE = 3, MANY = 4, FALSE = 5`: What is wrong.");
        Checks.due("SYNTAX", QuantifierProofs.SYNTAX, 1);
        Checks.due("NAME", QuantifierProofs.NAME, 2);
        Checks.due("TWICE", QuantifierProofs.TWICE, 3);
        Checks.due("MANY", QuantifierProofs.MANY, 4);
        Checks.due("FALSE", QuantifierProofs.FALSE, 5);
    }

    private static void members() {
        Checks.sentence("The public face", "public final class QuantifierProofs {");
        Set<String> seen = new TreeSet<>();
        for (Field f : QuantifierProofs.class.getDeclaredFields()) {
            if (shown(f.getModifiers())) {
                seen.add(f.getType() + " " + f.getName());
                int due = Modifier.PUBLIC | Modifier.STATIC | Modifier.FINAL;
                Checks.due("modifiers of " + f.getName(), f.getModifiers(), due);
            }
        }
        for (Constructor<?> c : QuantifierProofs.class.getDeclaredConstructors()) {
            seen.add("new " + Arrays.toString(c.getParameterTypes()));
            Checks.due("modifiers of the constructor", c.getModifiers(), Modifier.PUBLIC);
        }
        for (Method m : QuantifierProofs.class.getDeclaredMethods()) {
            if (shown(m.getModifiers())) {
                seen.add(m.getReturnType() + " " + m.getName()
                        + Arrays.toString(m.getParameterTypes()));
                Checks.due("modifiers of " + m.getName(), m.getModifiers(), Modifier.PUBLIC);
            }
        }
        Checks.due("the face is the document's, not " + seen, seen.equals(FACE), true);
        Checks.due("the class's modifiers", QuantifierProofs.class.getModifiers(),
                Modifier.PUBLIC | Modifier.FINAL);
    }

    private static void lastCalls() {
        Checks.sentence("What it is",
                "An object is used for at most 512 calls after it has been made");
        String formula = "e 1 0 -1 0";
        used(formula.length() + 1).formulaDue(formula, 0);
        String trace = "s 7 1 2 0 0";
        used(trace.length() + 1).traceDue(trace, 1);
        used(1).type("x");
        used(1).stepCountDue(5);
        used(1).stepDue(0, Checks.cube(1, 2));
        used(1).restDue(4, 31);
        used(1).emptyDue(4);
        used(1).variableDue(0, 11);
        used(1).clauseDue(1, Checks.set(-1, 2));
        used(1).wonDue(0, 0, true);
        used(1).playDue(2, 2);
        Checks.due("variables()", used(1).call().variables(), 2);
        Checks.due("clauses()", used(1).call().clauses(), 2);
    }

    /** An object with a formula and a proof that has so many calls left. */
    private static Subject used(int callsLeft) {
        Subject x = Subject.with("a 1 0 e 2 0 1 -2 0 -1 2 0");
        x.traceDue("s 1 1 2 0 0 2 -1 -2 0 0 3 1 0 1 0 4 -1 0 2 0 5 0 3 4 0", 5);
        while (x.callsLeft() > callsLeft) {
            x.wonDue(0, 0, true);
        }
        return x;
    }

    private static boolean shown(int modifiers) {
        return !Modifier.isPrivate(modifiers);
    }
}
