/**
 * Formulas with quantifiers, proofs about them that are checked step by step, and the game that
 * tells what a formula is worth.
 *
 * <p>A set of literals is an int: bit v - 1 stands for v, bit v + 7 for -v. A set of variables is
 * an int too: bit v - 1 stands for v. All rows are made once, with the object, and used again.
 */
public final class QuantifierProofs {
    public static final int BAD = -1;
    public static final int SYNTAX = 1, NAME = 2, TWICE = 3, MANY = 4, FALSE = 5;

    private static final int FINE = 0;
    private static final int WRONG_FACTOR = -1000;

    private static final int MOST_CHARACTERS = 200;
    private static final int MOST_DIGITS = 3;
    private static final int MOST_VARIABLES = 8;
    private static final int MOST_CLAUSES = 12;
    private static final int MOST_STEPS = 24;
    private static final int MOST_ID = 99;

    private static final int ALL_VARIABLES = 255;
    private static final int CUBE_MARK = 65536;
    private static final int FOR_ALL_MARK = 10;
    private static final int SOME_WINS_MARK = 256;

    private final Words words;
    private final FormulaReader formulaReader;
    private final TraceReader traceReader;
    private final Proof proof;
    private Formula current;

    public QuantifierProofs() {
        words = new Words();
        formulaReader = new FormulaReader();
        traceReader = new TraceReader();
        proof = traceReader.proof;
        current = traceReader.formula;
    }

    public boolean type(char c) {
        return words.append(c);
    }

    public int formula() {
        formulaReader.begin();
        int answer = readBuffer(formulaReader);
        if (answer == FINE) {
            current = formulaReader.exchange(current);
            proof.forget();
        }
        return answer;
    }

    public int trace() {
        int before = proof.count;
        traceReader.begin(current);
        int answer = readBuffer(traceReader);
        return answer == FINE ? proof.count - before : answer;
    }

    public int variables() {
        return current.variableCount;
    }

    public int variable(int i) {
        if (i < 0 || i >= current.variableCount) {
            return BAD;
        }
        int v = current.order[i];
        return current.isForAll(v) ? v + FOR_ALL_MARK : v;
    }

    public int clauses() {
        return current.clauseCount;
    }

    public int clause(int i) {
        return i < 0 || i >= current.clauseCount ? BAD : current.clauseLiterals[i];
    }

    public int steps() {
        return proof.count;
    }

    public int step(int i) {
        if (!proof.has(i)) {
            return BAD;
        }
        return proof.cubes[i] ? proof.literals[i] + CUBE_MARK : proof.literals[i];
    }

    public int rests(int i) {
        return proof.has(i) ? proof.grounds[i] : BAD;
    }

    public int empty() {
        for (int i = 0; i < proof.count; i++) {
            if (proof.literals[i] == 0) {
                return i;
            }
        }
        return BAD;
    }

    public boolean won(int n, int values) {
        return n >= 0 && n <= current.variableCount && current.isWon(n, values);
    }

    public int play(int values) {
        int played = 0;
        for (int i = 0; i < current.variableCount; i++) {
            boolean forAll = current.isForAll(current.order[i]);
            int chosen = forAll ? current.choiceOfAll(i, played) : (values >> i) & 1;
            played |= chosen << i;
        }
        boolean someWins = current.isWon(current.variableCount, played);
        return someWins ? played + SOME_WINS_MARK : played;
    }

    /** FINE, or what is wrong first and its place in one number. */
    private int readBuffer(Reader reader) {
        int wrong = FINE;
        words.rewind();
        for (int n = 0; n < MOST_CHARACTERS && wrong == FINE && words.advance(); n++) {
            wrong = reader.take(words);
        }
        if (wrong == FINE && !reader.mayEnd()) {
            wrong = SYNTAX;
        }
        int answer = wrong == FINE ? FINE : WRONG_FACTOR * wrong - words.place();
        words.forget();
        return answer;
    }

    private static int setOf(int literal) {
        return literal > 0 ? 1 << (literal - 1) : 1 << (MOST_VARIABLES - 1 - literal);
    }

    private static int variablesIn(int literals) {
        return (literals | (literals >> MOST_VARIABLES)) & ALL_VARIABLES;
    }

    private static int bothWaysIn(int literals) {
        return literals & (literals >> MOST_VARIABLES) & ALL_VARIABLES;
    }

    private static int literalsOf(int variables) {
        return variables | variables << MOST_VARIABLES;
    }

    /** What takes the words of the buffer, one after the other. */
    private interface Reader {
        /** FINE, or what is wrong with the word at which the words stand. */
        int take(Words words);

        /** Whether the end may stand behind the words that were taken. */
        boolean mayEnd();
    }

    /** The buffer, and the word in it at which reading stands. */
    private static final class Words {
        private final char[] characters = new char[MOST_CHARACTERS];
        private int length;
        private int start;
        private int end;
        private boolean numeric;
        private int number;

        boolean append(char c) {
            if (c < ' ' || c > '~' || length >= MOST_CHARACTERS) {
                return false;
            }
            characters[length] = c;
            length++;
            return true;
        }

        void forget() {
            length = 0;
        }

        void rewind() {
            end = 0;
        }

        /** Goes to the next word; where there is none, to the end of the buffer. */
        boolean advance() {
            start = end;
            while (start < length && characters[start] == ' ') {
                start++;
            }
            end = start;
            while (end < length && characters[end] != ' ') {
                end++;
            }
            readNumber();
            return start < end;
        }

        int place() {
            return start;
        }

        boolean isLetter(char letter) {
            return end - start == 1 && characters[start] == letter;
        }

        boolean isNumber() {
            return numeric;
        }

        int value() {
            return number;
        }

        private void readNumber() {
            boolean negative = start < end && characters[start] == '-';
            int first = negative ? start + 1 : start;
            int digits = end - first;
            numeric = digits >= 1 && digits <= MOST_DIGITS && !hasIdleZero(first, digits, negative);
            int size = 0;
            for (int i = first; i < end && numeric; i++) {
                char c = characters[i];
                numeric = c >= '0' && c <= '9';
                size = size * 10 + (c - '0');
            }
            number = negative ? -size : size;
        }

        private boolean hasIdleZero(int first, int digits, boolean negative) {
            return characters[first] == '0' && (negative || digits > 1);
        }
    }

    /** The variables in their order and the clauses. */
    private static final class Formula {
        private final int[] order = new int[MOST_VARIABLES];
        private final int[] clauseLiterals = new int[MOST_CLAUSES];
        private int variableCount;
        private int clauseCount;
        private int forAll;
        private int forSome;

        void forget() {
            variableCount = 0;
            clauseCount = 0;
            forAll = 0;
            forSome = 0;
        }

        /** Whether v or -v is a literal of this formula. */
        boolean hasLiteral(int literal) {
            return literal != 0 && literal >= -MOST_VARIABLES && literal <= MOST_VARIABLES
                    && (literalsOf(forAll | forSome) & setOf(literal)) != 0;
        }

        boolean isForAll(int v) {
            return (forAll & setOf(v)) != 0;
        }

        void addVariable(int v, boolean all) {
            if (variableCount >= MOST_VARIABLES) {
                return;
            }
            order[variableCount] = v;
            variableCount++;
            if (all) {
                forAll |= setOf(v);
            } else {
                forSome |= setOf(v);
            }
        }

        /** False, changing nothing, where there is no room for one more. */
        boolean addClause(int literals) {
            if (clauseCount >= MOST_CLAUSES) {
                return false;
            }
            clauseLiterals[clauseCount] = literals;
            clauseCount++;
            return true;
        }

        boolean hasClause(int literals) {
            for (int i = 0; i < clauseCount; i++) {
                if (clauseLiterals[i] == literals) {
                    return true;
                }
            }
            return false;
        }

        /** Whether each clause has one of the literals. */
        boolean isMetBy(int literals) {
            for (int i = 0; i < clauseCount; i++) {
                if ((clauseLiterals[i] & literals) == 0) {
                    return false;
                }
            }
            return true;
        }

        /** The variables that are inner to all of these. */
        int innerToAll(int variables) {
            int inner = 0;
            for (int i = variableCount - 1; i >= 0; i--) {
                int one = setOf(order[i]);
                if ((variables & one) != 0) {
                    return inner;
                }
                inner |= one;
            }
            return inner;
        }

        boolean isWon(int n, int values) {
            int truths = 0;
            for (int i = 0; i < n && i < variableCount; i++) {
                truths |= truth(i, (values >> i) & 1);
            }
            return someCanWin(this, n, truths);
        }

        /** What ALL chooses for the i-th variable when those before it have these values. */
        int choiceOfAll(int i, int values) {
            boolean onlyOneHelps = isWon(i + 1, values) && !isWon(i + 1, values | 1 << i);
            return onlyOneHelps ? 1 : 0;
        }

        /** The literal that is true when the i-th variable has the value. */
        private int truth(int i, int value) {
            return setOf(value == 1 ? order[i] : -order[i]);
        }

        private static boolean someCanWin(Formula game, int depth, int truths) {
            // What is true stays true, so the values that are still to come cannot undo it.
            if (game.isMetBy(truths)) {
                return true;
            }
            if (depth < 0 || depth >= game.variableCount) {
                return false;
            }
            boolean allChooses = game.isForAll(game.order[depth]);
            boolean wonWithZero = someCanWin(game, depth + 1, truths | game.truth(depth, 0));
            // One loss is enough for ALL and one win for SOME: then 1 need not be tried.
            if (wonWithZero != allChooses) {
                return wonWithZero;
            }
            return someCanWin(game, depth + 1, truths | game.truth(depth, 1));
        }
    }

    /** The steps that there are. */
    private static final class Proof {
        private final int[] ids = new int[MOST_STEPS];
        private final int[] literals = new int[MOST_STEPS];
        private final int[] grounds = new int[MOST_STEPS];
        private final boolean[] cubes = new boolean[MOST_STEPS];
        private int count;

        void forget() {
            count = 0;
        }

        boolean has(int i) {
            return i >= 0 && i < count;
        }

        boolean isFull() {
            return count >= MOST_STEPS;
        }

        /** The step with that id, or BAD. */
        int find(int id) {
            for (int i = 0; i < count; i++) {
                if (ids[i] == id) {
                    return i;
                }
            }
            return BAD;
        }

        void add(int id, int set, boolean cube, int premiseGrounds) {
            if (isFull()) {
                return;
            }
            ids[count] = id;
            literals[count] = set;
            cubes[count] = cube;
            grounds[count] = premiseGrounds | 1 << count;
            count++;
        }
    }

    /** Reads a formula into a draft, so that one with a wrong word leaves the current one alone. */
    private static final class FormulaReader implements Reader {
        private Formula draft = new Formula();
        private boolean blockMayBegin;
        private boolean inBlock;
        private boolean blockHasVariables;
        private boolean blockIsForAll;
        private int literals;

        void begin() {
            draft.forget();
            blockMayBegin = true;
            inBlock = false;
            literals = 0;
        }

        /** The formula that was read; the one that it replaces is written over by the next. */
        Formula exchange(Formula replaced) {
            Formula read = draft;
            draft = replaced;
            return read;
        }

        public int take(Words words) {
            if (!words.isNumber()) {
                return takeLetter(words);
            }
            if (inBlock) {
                return takeInBlock(words.value());
            }
            blockMayBegin = false;
            return takeInClause(words.value());
        }

        public boolean mayEnd() {
            return !inBlock && literals == 0;
        }

        private int takeLetter(Words words) {
            boolean all = words.isLetter('a');
            if (!blockMayBegin || !(all || words.isLetter('e'))) {
                return SYNTAX;
            }
            blockMayBegin = false;
            inBlock = true;
            blockHasVariables = false;
            blockIsForAll = all;
            return FINE;
        }

        private int takeInBlock(int number) {
            if (number < 0) {
                return SYNTAX;
            }
            if (number == 0) {
                return endBlock();
            }
            if (number > MOST_VARIABLES || draft.hasLiteral(number)) {
                return NAME;
            }
            draft.addVariable(number, blockIsForAll);
            blockHasVariables = true;
            return FINE;
        }

        private int endBlock() {
            if (!blockHasVariables) {
                return SYNTAX;
            }
            inBlock = false;
            blockMayBegin = true;
            return FINE;
        }

        private int takeInClause(int number) {
            if (number == 0) {
                return endClause();
            }
            if (!draft.hasLiteral(number)) {
                return NAME;
            }
            if ((literals & (setOf(number) | setOf(-number))) != 0) {
                return TWICE;
            }
            literals |= setOf(number);
            return FINE;
        }

        private int endClause() {
            boolean added = draft.addClause(literals);
            literals = 0;
            return added ? FINE : MANY;
        }
    }

    /** Reads a trace; each step joins the proof as soon as it has been checked. */
    private static final class TraceReader implements Reader {
        private static final int AT_LETTER = 0, AT_STEP = 1, IN_LITERALS = 2, IN_PREMISES = 3;
        private static final int MOST_PREMISES = 2;

        private final Proof proof = new Proof();
        private final int[] premises = new int[MOST_PREMISES];
        private Formula formula = new Formula();
        private int stage;
        private boolean cube;
        private int id;
        private int literals;
        private int premiseCount;

        void begin(Formula about) {
            formula = about;
            stage = AT_LETTER;
        }

        public int take(Words words) {
            if (stage == AT_LETTER) {
                return takeLetter(words);
            }
            if (!words.isNumber()) {
                return SYNTAX;
            }
            int number = words.value();
            if (stage == AT_STEP) {
                return beginStep(number);
            }
            if (stage == IN_LITERALS) {
                return takeLiteral(number);
            }
            if (number != 0) {
                return takePremise(number);
            }
            if (!follows()) {
                return FALSE;
            }
            endStep();
            return FINE;
        }

        public boolean mayEnd() {
            return stage == AT_STEP;
        }

        private int takeLetter(Words words) {
            cube = words.isLetter('s');
            if (!cube && !words.isLetter('r')) {
                return SYNTAX;
            }
            stage = AT_STEP;
            return FINE;
        }

        private int beginStep(int number) {
            if (number < 1) {
                return SYNTAX;
            }
            if (number > MOST_ID || proof.find(number) != BAD) {
                return NAME;
            }
            if (proof.isFull()) {
                return MANY;
            }
            id = number;
            literals = 0;
            premiseCount = 0;
            stage = IN_LITERALS;
            return FINE;
        }

        private int takeLiteral(int number) {
            if (number == 0) {
                stage = IN_PREMISES;
                return FINE;
            }
            if (!formula.hasLiteral(number)) {
                return NAME;
            }
            if ((literals & setOf(number)) != 0) {
                return TWICE;
            }
            literals |= setOf(number);
            return FINE;
        }

        private int takePremise(int number) {
            int premise = proof.find(number);
            if (!proof.has(premise) || proof.cubes[premise] != cube) {
                return NAME;
            }
            if (premiseCount >= MOST_PREMISES) {
                return MANY;
            }
            premises[premiseCount] = premise;
            premiseCount++;
            return FINE;
        }

        private void endStep() {
            int grounds = 0;
            for (int i = 0; i < premiseCount; i++) {
                grounds |= proof.grounds[premises[i]];
            }
            proof.add(id, literals, cube, grounds);
            stage = AT_STEP;
        }

        private boolean follows() {
            switch (premiseCount) {
                case 0:
                    return cube ? isStartCube() : formula.hasClause(literals);
                case 1:
                    return isReductionOf(proof.literals[premises[0]]);
                default:
                    return isResolventOf(proof.literals[premises[0]], proof.literals[premises[1]]);
            }
        }

        private int mainVariables() {
            return cube ? formula.forAll : formula.forSome;
        }

        private int sideVariables() {
            return cube ? formula.forSome : formula.forAll;
        }

        private boolean isStartCube() {
            return bothWaysIn(literals) == 0 && formula.isMetBy(literals);
        }

        private boolean isReductionOf(int premise) {
            int inner = formula.innerToAll(variablesIn(premise) & mainVariables());
            return literals == (premise & ~literalsOf(inner & sideVariables()));
        }

        private boolean isResolventOf(int c, int d) {
            int opposed = (c & (d >> MOST_VARIABLES) | (c >> MOST_VARIABLES) & d) & mainVariables();
            if (Integer.bitCount(opposed) != 1) {
                return false;
            }
            int result = (c | d) & ~literalsOf(opposed);
            int bothWays = bothWaysIn(result);
            int merged = variablesIn(c) & variablesIn(d) & bothWays & sideVariables();
            return literals == result
                    && (bothWays & mainVariables()) == 0
                    && (merged & ~formula.innerToAll(opposed)) == 0;
        }
    }
}
