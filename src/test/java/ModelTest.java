import java.util.ArrayList;
import java.util.Arrays;
import java.util.Collections;
import java.util.HashSet;
import java.util.List;
import java.util.Map;
import java.util.Random;
import java.util.Set;
import java.util.TreeMap;

/** All promises at once: runs of calls, drawn from a fixed seed, answered as the model answers. */
public final class ModelTest {
    private static final int RUNS = 3000;
    private static final int CALLS = 512;
    private static final String[] ODD_WORDS = {"0", "1", "-1", "9", "-9", "99", "100", "00", "-0",
        "a", "e", "r", "s", "x", "-", "1000", "2", "-3", "8", "-8", "0 0"};

    private final Random random;
    private final QuantifierProofs x = new QuantifierProofs();
    private final Model model = new Model();
    private final Map<String, Integer> seen;
    /** Whether formulas and steps are short, so that many steps come with few calls. */
    private final boolean brief;
    private int calls = 0;

    private ModelTest(long seed, Map<String, Integer> seen) {
        // The first draws from neighbouring seeds are alike, so the seeds are spread.
        random = new Random(seed * 0x9E3779B97F4A7C15L);
        this.seen = seen;
        brief = seed % 8 == 0;
    }

    public static void main(String[] args) {
        Map<String, Integer> seen = new TreeMap<>();
        for (int seed = 0; seed < RUNS; seed++) {
            new ModelTest(seed, seen).run();
        }
        System.out.println(seen);
        everythingWasSeen(seen);
        Checks.finish("ModelTest");
    }

    /** Else the runs would be too tame to tell anything. */
    private static void everythingWasSeen(Map<String, Integer> seen) {
        List<String> due = new ArrayList<>();
        for (int what = 0; what <= 4; what++) {
            due.add("formula " + what);
        }
        for (int what = 0; what <= 5; what++) {
            due.add("trace " + what);
        }
        for (String kind : Arrays.asList("clause", "cube")) {
            for (int premises = 0; premises <= 2; premises++) {
                due.add(kind + " with " + premises);
                due.add(kind + " with " + premises + " refused");
            }
            due.add(kind + " both ways");
            due.add(kind + " empty");
        }
        due.add("24 steps");
        for (String what : due) {
            Checks.due("'" + what + "' was seen", seen.getOrDefault(what, 0) >= 20, true);
        }
    }

    private void run() {
        boolean room = true;
        while (room) {
            int kind = random.nextInt(20);
            if (model.order.isEmpty() && model.clauses.isEmpty() || kind == 0 && oneIn(3)) {
                room = readFormula();
            } else if (kind < 18) {
                room = readTrace();
            } else {
                room = mayCall(10);
                ask(room);
            }
        }
    }

    private boolean mayCall(int more) {
        return calls + more <= CALLS;
    }

    private boolean oneIn(int n) {
        return random.nextInt(n) == 0;
    }

    private void count(String what) {
        seen.merge(what, 1, Integer::sum);
    }

    private void due(String call, long got, long want) {
        calls++;
        Checks.due(call, got, want);
    }

    private void type(String text) {
        for (char c : text.toCharArray()) {
            due("type of '" + text + "'", x.type(c) ? 1 : 0, model.type(c) ? 1 : 0);
        }
    }

    // ---- formulas

    /** False, and nothing is called, when the calls would be too many. */
    private boolean readFormula() {
        String text = spoiled(formulaText(), 4);
        if (!mayCall(text.length() + 20)) {
            return false;
        }
        type(text);
        int want = model.formula();
        count("formula " + -want / 1000);
        due("formula '" + text + "'", x.formula(), want);
        ask(true);
        return true;
    }

    private List<String> formulaText() {
        List<Integer> variables = new ArrayList<>(Arrays.asList(1, 2, 3, 4, 5, 6, 7, 8));
        Collections.shuffle(variables, random);
        int count = brief || oneIn(20) ? random.nextInt(2) : 2 + random.nextInt(oneIn(4) ? 7 : 3);
        variables = variables.subList(0, count);
        List<String> words = new ArrayList<>();
        boolean open = false;
        for (int v : variables) {
            if (open && oneIn(2)) {
                words.add("0");
                open = false;
            }
            if (!open) {
                words.add(oneIn(2) ? "a" : "e");
                open = true;
            }
            words.add("" + v);
        }
        if (open) {
            words.add("0");
        }
        addClauses(words, variables);
        return words;
    }

    private void addClauses(List<String> words, List<Integer> variables) {
        int count = oneIn(12) ? 13 : brief ? 1 + random.nextInt(2) : random.nextInt(8);
        int leftOut = 2 + random.nextInt(4);
        for (int i = 0; i < count; i++) {
            for (int v : variables) {
                if (!oneIn(leftOut)) {
                    words.add("" + (oneIn(2) ? v : -v));
                }
            }
            words.add("0");
        }
    }

    /** The words with spaces, and one time in so many with a change for the worse. */
    private String spoiled(List<String> words, int often) {
        if (oneIn(often)) {
            String odd = ODD_WORDS[random.nextInt(ODD_WORDS.length)];
            int at = random.nextInt(words.size() + 1);
            if (at == words.size() || oneIn(2)) {
                words.add(at, odd);
            } else if (oneIn(3)) {
                words.remove(at);
            } else if (oneIn(3)) {
                words.add(at, words.get(random.nextInt(words.size())));
            } else {
                words.set(at, odd);
            }
        }
        String text = String.join(oneIn(20) ? "  " : " ", words);
        return oneIn(20) ? text.substring(0, random.nextInt(text.length() + 1)) : text;
    }

    // ---- traces

    /** False, and nothing is called, when the calls would be too many. */
    private boolean readTrace() {
        boolean cube = oneIn(brief ? 10 : 2);
        List<String> words = new ArrayList<>();
        words.add(cube ? "s" : "r");
        int before = model.steps.size();
        int premises = addStep(words, cube);
        if (oneIn(brief ? 2 : 4)) {
            addStart(words, cube);
        }
        String text = spoiled(words, brief ? 16 : 8);
        if (!mayCall(text.length() + 20)) {
            return false;
        }
        type(text);
        int want = model.trace();
        due("trace '" + text + "'", x.trace(), want);
        count("trace " + (want < 0 ? -want / 1000 : 0));
        String kind = (cube ? "cube" : "clause") + " with " + premises;
        if (want >= 1) {
            count(kind);
            countStep(before);
        } else if (want <= -5000) {
            count(kind + " refused");
        }
        if (!brief || oneIn(6)) {
            askOfSteps(before);
        }
        return true;
    }

    private void countStep(int i) {
        Model.Step step = model.steps.get(i);
        String kind = step.cube() ? "cube" : "clause";
        if (step.literals().stream().anyMatch(l -> step.literals().contains(-l))) {
            count(kind + " both ways");
        }
        if (step.literals().isEmpty()) {
            count(kind + " empty");
        }
        if (model.steps.size() == 24) {
            count("24 steps");
        }
    }

    /** Adds a step that mostly follows, and tells from how many others. */
    private int addStep(List<String> words, boolean cube) {
        List<Model.Step> same = new ArrayList<>();
        for (Model.Step s : model.steps) {
            if (s.cube() == cube) {
                same.add(s);
            }
        }
        int premises = same.isEmpty() ? 0 : same.size() < 2 ? random.nextInt(2) : howMany();
        Set<Integer> literals;
        List<Model.Step> from = new ArrayList<>();
        if (premises == 0) {
            literals = cube ? startCube() : startClause();
        } else if (premises == 1) {
            from.add(same.get(random.nextInt(same.size())));
            literals = model.reduced(cube, from.get(0).literals());
        } else {
            from.addAll(pair(same, cube));
            literals = model.resolvent(cube, from.get(0).literals(), from.get(1).literals());
        }
        words.add("" + freeId());
        literals = changed(literals);
        literals.forEach(l -> words.add("" + l));
        words.add("0");
        from.forEach(s -> words.add("" + s.id()));
        words.add("0");
        return premises;
    }

    /** A second step, which does not rest on the first. */
    private void addStart(List<String> words, boolean cube) {
        words.add("" + (40 + random.nextInt(60)));
        changed(cube ? startCube() : startClause()).forEach(l -> words.add("" + l));
        words.add("0");
        words.add("0");
    }

    private int howMany() {
        int most = brief ? 2 : 3;
        return oneIn(most) ? 0 : oneIn(most) || brief ? 1 : 2;
    }

    /** Mostly one that is free, and short, as calls are few. */
    private int freeId() {
        int id = 1;
        while (!oneIn(30) && model.stepWith(id) != null) {
            id++;
        }
        return oneIn(10) ? 1 + random.nextInt(99) : id;
    }

    /** Two of the steps: mostly such as can be resolved, best with a variable both ways. */
    private List<Model.Step> pair(List<Model.Step> same, boolean cube) {
        List<Model.Step> best = Arrays.asList(same.get(0), same.get(1));
        int most = -1;
        for (int tries = oneIn(4) ? 1 : 40; tries > 0; tries--) {
            Model.Step c = same.get(random.nextInt(same.size()));
            Model.Step d = same.get(random.nextInt(same.size()));
            int worth = worth(cube, c.literals(), d.literals());
            if (worth > most) {
                most = worth;
                best = Arrays.asList(c, d);
            }
        }
        return best;
    }

    private int worth(boolean cube, Set<Integer> c, Set<Integer> d) {
        int opposed = model.opposed(cube, c, d).size();
        if (opposed != 1) {
            return opposed == 0 ? 0 : 1;
        }
        Set<Integer> result = model.resolvent(cube, c, d);
        boolean bothWays = result.stream().anyMatch(l -> result.contains(-l));
        return model.mayResolve(cube, c, d) ? bothWays ? 4 : 3 : 2;
    }

    private Set<Integer> startClause() {
        if (model.clauses.isEmpty()) {
            return new HashSet<>();
        }
        return model.clauses.get(random.nextInt(model.clauses.size()));
    }

    private Set<Integer> startCube() {
        Set<Integer> cube = new HashSet<>();
        for (int tries = 0; tries < 30; tries++) {
            cube.clear();
            for (int v : model.order) {
                if (!oneIn(4)) {
                    cube.add(oneIn(2) ? v : -v);
                }
            }
            if (model.follows(true, cube, new ArrayList<>())) {
                break;
            }
        }
        return cube;
    }

    private Set<Integer> changed(Set<Integer> literals) {
        Set<Integer> changed = new HashSet<>(literals);
        if (oneIn(brief ? 20 : 8) && !model.order.isEmpty()) {
            int v = model.order.get(random.nextInt(model.order.size()));
            int literal = oneIn(2) ? v : -v;
            if (!changed.remove(literal)) {
                changed.add(literal);
            }
        }
        return changed;
    }

    // ---- questions

    private void ask(boolean room) {
        if (!room) {
            return;
        }
        due("variables", x.variables(), model.order.size());
        due("clauses", x.clauses(), model.clauses.size());
        int i = random.nextInt(14) - 1;
        due("variable(" + i + ")", x.variable(i), model.variable(i));
        due("clause(" + i + ")", x.clause(i), model.clause(i));
        int n = random.nextInt(11) - 1;
        int values = random.nextInt();
        String won = "won(" + n + ", " + values + ")";
        due(won, x.won(n, values) ? 1 : 0, model.won(n, values) ? 1 : 0);
        due("play(" + values + ")", x.play(values), model.play(values));
        askOfSteps(random.nextInt(26) - 1);
    }

    private void askOfSteps(int i) {
        due("step(" + i + ")", x.step(i), model.step(i));
        due("rests(" + i + ")", x.rests(i), model.rests(i));
        due("empty", x.empty(), model.empty());
        due("steps", x.steps(), model.steps.size());
    }
}
