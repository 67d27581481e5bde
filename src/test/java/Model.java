import java.util.ArrayList;
import java.util.HashSet;
import java.util.List;
import java.util.Set;
import java.util.TreeSet;

/**
 * The document told once more, with sets and lists instead of bits and as slowly as it likes: what
 * the class answers is compared with what this answers.
 */
final class Model {
    record Word(String text, int place) {
        boolean isNumber() {
            return text.matches("0|-?[1-9][0-9]{0,2}");
        }

        boolean isLetter() {
            return text.matches("[aers]");
        }

        int number() {
            return Integer.parseInt(text);
        }
    }

    record Step(int id, boolean cube, Set<Integer> literals, Set<Integer> rests) {
    }

    /** Why a reading ended. */
    static final class Wrong extends Exception {
        private static final long serialVersionUID = 1L;
        final int answer;

        Wrong(int what, int place) {
            answer = -1000 * what - place;
        }
    }

    final StringBuilder buffer = new StringBuilder();
    List<Integer> order = new ArrayList<>();
    Set<Integer> forAll = new HashSet<>();
    List<Set<Integer>> clauses = new ArrayList<>();
    final List<Step> steps = new ArrayList<>();

    boolean type(char c) {
        if (c < 32 || c > 126 || buffer.length() == 200) {
            return false;
        }
        buffer.append(c);
        return true;
    }

    private List<Word> takeWords() {
        List<Word> words = new ArrayList<>();
        String text = buffer.toString();
        for (int i = 0; i < text.length(); i++) {
            boolean begins = text.charAt(i) != ' ' && (i == 0 || text.charAt(i - 1) == ' ');
            if (begins) {
                int space = text.indexOf(' ', i);
                words.add(new Word(text.substring(i, space < 0 ? text.length() : space), i));
            }
        }
        // The end is a word without characters: it is no number and no letter.
        words.add(new Word("", text.length()));
        buffer.setLength(0);
        return words;
    }

    private static void refuse(boolean wrong, int what, Word word) throws Wrong {
        if (wrong) {
            throw new Wrong(what, word.place());
        }
    }

    // ---- formulas

    int formula() {
        List<Word> words = takeWords();
        List<Integer> newOrder = new ArrayList<>();
        Set<Integer> newForAll = new HashSet<>();
        List<Set<Integer>> newClauses = new ArrayList<>();
        try {
            int at = 0;
            while (words.get(at).text().matches("[ae]")) {
                at = block(words, at, newOrder, newForAll);
            }
            while (at < words.size() - 1) {
                at = clause(words, at, newOrder, newClauses);
            }
        } catch (Wrong w) {
            return w.answer;
        }
        order = newOrder;
        forAll = newForAll;
        clauses = newClauses;
        steps.clear();
        return 0;
    }

    private static int block(List<Word> words, int at, List<Integer> order, Set<Integer> forAll)
            throws Wrong {
        boolean all = words.get(at).text().equals("a");
        for (int i = at + 1;; i++) {
            Word word = words.get(i);
            refuse(!word.isNumber(), 1, word);
            int v = word.number();
            refuse(v < 0, 1, word);
            refuse(v == 0 && i == at + 1, 1, word);
            if (v == 0) {
                return i + 1;
            }
            refuse(v > 8 || order.contains(v), 2, word);
            order.add(v);
            if (all) {
                forAll.add(v);
            }
        }
    }

    private static int clause(List<Word> words, int at, List<Integer> order, List<Set<Integer>> to)
            throws Wrong {
        Set<Integer> clause = new HashSet<>();
        for (int i = at;; i++) {
            Word word = words.get(i);
            refuse(!word.isNumber(), 1, word);
            int literal = word.number();
            if (literal == 0) {
                refuse(to.size() == 12, 4, word);
                to.add(clause);
                return i + 1;
            }
            refuse(!order.contains(Math.abs(literal)), 2, word);
            refuse(clause.contains(literal) || clause.contains(-literal), 3, word);
            clause.add(literal);
        }
    }

    // ---- traces

    int trace() {
        List<Word> words = takeWords();
        int before = steps.size();
        try {
            Word first = words.get(0);
            refuse(!first.text().matches("[rs]"), 1, first);
            int at = 1;
            while (at < words.size() - 1) {
                at = readStep(words, at, first.text().equals("s"));
            }
        } catch (Wrong w) {
            return w.answer;
        }
        return steps.size() - before;
    }

    private int readStep(List<Word> words, int from, boolean cube) throws Wrong {
        int at = from;
        Word begin = words.get(at++);
        refuse(!begin.isNumber() || begin.number() < 1, 1, begin);
        refuse(begin.number() > 99 || stepWith(begin.number()) != null, 2, begin);
        refuse(steps.size() == 24, 4, begin);
        Set<Integer> literals = new HashSet<>();
        while (true) {
            Word word = words.get(at++);
            refuse(!word.isNumber(), 1, word);
            if (word.number() == 0) {
                break;
            }
            refuse(!order.contains(Math.abs(word.number())), 2, word);
            refuse(!literals.add(word.number()), 3, word);
        }
        List<Step> premises = new ArrayList<>();
        while (true) {
            Word word = words.get(at++);
            refuse(!word.isNumber(), 1, word);
            if (word.number() == 0) {
                refuse(!follows(cube, literals, premises), 5, word);
                break;
            }
            Step premise = stepWith(word.number());
            refuse(premise == null || premise.cube() != cube, 2, word);
            refuse(premises.size() == 2, 4, word);
            premises.add(premise);
        }
        Set<Integer> rests = new TreeSet<>();
        rests.add(steps.size());
        premises.forEach(p -> rests.addAll(p.rests()));
        steps.add(new Step(begin.number(), cube, literals, rests));
        return at;
    }

    Step stepWith(int id) {
        return steps.stream().filter(s -> s.id() == id).findAny().orElse(null);
    }

    boolean follows(boolean cube, Set<Integer> literals, List<Step> premises) {
        if (premises.size() == 1) {
            return literals.equals(reduced(cube, premises.get(0).literals()));
        }
        if (premises.size() == 2) {
            Set<Integer> c = premises.get(0).literals();
            Set<Integer> d = premises.get(1).literals();
            return literals.equals(resolvent(cube, c, d)) && mayResolve(cube, c, d);
        }
        if (!cube) {
            return clauses.contains(literals);
        }
        return literals.stream().noneMatch(l -> literals.contains(-l))
                && clauses.stream().allMatch(c -> c.stream().anyMatch(literals::contains));
    }

    boolean isMain(boolean cube, int literal) {
        return forAll.contains(Math.abs(literal)) == cube;
    }

    private boolean isInner(int one, int other) {
        return order.indexOf(Math.abs(one)) > order.indexOf(Math.abs(other));
    }

    Set<Integer> reduced(boolean cube, Set<Integer> of) {
        Set<Integer> kept = new HashSet<>();
        for (int literal : of) {
            boolean goes = !isMain(cube, literal);
            for (int other : of) {
                goes &= !isMain(cube, other) || isInner(literal, other);
            }
            if (!goes) {
                kept.add(literal);
            }
        }
        return kept;
    }

    /** The main variables that are one way in c and the other way in d. */
    List<Integer> opposed(boolean cube, Set<Integer> c, Set<Integer> d) {
        List<Integer> found = new ArrayList<>();
        for (int v : order) {
            boolean opposed = c.contains(v) && d.contains(-v) || c.contains(-v) && d.contains(v);
            if (opposed && isMain(cube, v)) {
                found.add(v);
            }
        }
        return found;
    }

    /** All of c and d but their opposed main variables; these must be just one. */
    Set<Integer> resolvent(boolean cube, Set<Integer> c, Set<Integer> d) {
        Set<Integer> result = new HashSet<>(c);
        result.addAll(d);
        for (int v : opposed(cube, c, d)) {
            result.remove(v);
            result.remove(-v);
        }
        return result;
    }

    boolean mayResolve(boolean cube, Set<Integer> c, Set<Integer> d) {
        List<Integer> opposed = opposed(cube, c, d);
        if (opposed.size() != 1) {
            return false;
        }
        Set<Integer> result = resolvent(cube, c, d);
        for (int v : order) {
            boolean bothWays = result.contains(v) && result.contains(-v);
            boolean inBoth = (c.contains(v) || c.contains(-v)) && (d.contains(v) || d.contains(-v));
            if (bothWays && isMain(cube, v)) {
                return false;
            }
            if (bothWays && inBoth && !isInner(v, opposed.get(0))) {
                return false;
            }
        }
        return true;
    }

    // ---- what is told

    int variable(int i) {
        if (i < 0 || i >= order.size()) {
            return -1;
        }
        return order.get(i) + (forAll.contains(order.get(i)) ? 10 : 0);
    }

    int clause(int i) {
        return i < 0 || i >= clauses.size() ? -1 : told(clauses.get(i));
    }

    int step(int i) {
        if (i < 0 || i >= steps.size()) {
            return -1;
        }
        return told(steps.get(i).literals()) + (steps.get(i).cube() ? 65536 : 0);
    }

    int rests(int i) {
        if (i < 0 || i >= steps.size()) {
            return -1;
        }
        return steps.get(i).rests().stream().mapToInt(k -> 1 << k).sum();
    }

    int empty() {
        for (Step s : steps) {
            if (s.literals().isEmpty()) {
                return steps.indexOf(s);
            }
        }
        return -1;
    }

    private static int told(Set<Integer> literals) {
        return literals.stream().mapToInt(l -> (int) Math.pow(2, l > 0 ? l - 1 : -l + 7)).sum();
    }

    // ---- the game

    boolean won(int n, int values) {
        if (n < 0 || n > order.size()) {
            return false;
        }
        List<Boolean> given = new ArrayList<>();
        for (int i = 0; i < n; i++) {
            given.add((values & 1 << i) != 0);
        }
        return won(given);
    }

    private boolean won(List<Boolean> values) {
        if (values.size() == order.size()) {
            return clauses.stream().allMatch(c -> c.stream().anyMatch(
                    l -> values.get(order.indexOf(Math.abs(l))) == l > 0));
        }
        boolean zero = won(with(values, false));
        boolean one = won(with(values, true));
        return forAll.contains(order.get(values.size())) ? zero && one : zero || one;
    }

    private static List<Boolean> with(List<Boolean> values, boolean next) {
        List<Boolean> longer = new ArrayList<>(values);
        longer.add(next);
        return longer;
    }

    int play(int values) {
        List<Boolean> played = new ArrayList<>();
        for (int i = 0; i < order.size(); i++) {
            boolean chosen = (values & 1 << i) != 0;
            if (forAll.contains(order.get(i))) {
                chosen = won(with(played, false)) && !won(with(played, true));
            }
            played.add(chosen);
        }
        int answer = won(played) ? 256 : 0;
        for (int i = 0; i < played.size(); i++) {
            answer += played.get(i) ? 1 << i : 0;
        }
        return answer;
    }
}
