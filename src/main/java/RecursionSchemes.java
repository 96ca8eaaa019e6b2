import java.util.Arrays;

/**
 * A model checker for recursion schemes of order 1 and deterministic trivial tree automata.
 *
 * <p>Inside, a symbol is its index in SYMBOLS, so terminal t is the symbol t and nonterminal n is
 * the symbol NONTERMINALS + n. All rows are made in the constructors: no later call makes an
 * object.
 */
public final class RecursionSchemes {
    public static final int NO_SUCH_INDEX = -1;
    public static final int BAD_VALUE = -2;
    public static final int NOT_POSSIBLE = -3;
    public static final int FULL = -4;
    public static final int NONE = -9;
    public static final int UNDEFINED = 0;

    private static final String SYMBOLS = "abcdSFGHxy";
    private static final int[] ARITIES = {2, 1, 0, 0, 0, 1, 1, 2, 0, 0};
    private static final int TERMINALS = 4;
    private static final int NONTERMINALS = 4;
    private static final int NONTERMINAL_COUNT = 4;
    private static final int B = 1;
    private static final int C = 2;
    private static final int S = 4;
    private static final int F = 5;
    private static final int G = 6;
    private static final int X = 8;
    private static final int Y = 9;
    private static final int NO_SYMBOL = -1;

    private static final int STATES = 3;
    private static final int ALL_STATES = 7;
    private static final int MAX_TEXT = 99;
    private static final int MAX_BODY = 30;
    private static final int MAX_TERM = 200;
    private static final int MAX_EXPANSIONS = 40;
    private static final int MAX_DEPTH = 6;
    private static final int MAX_PATH = 999999;
    private static final int MAX_DESCENTS = 30;
    private static final int MAX_COMMANDS = 4;
    private static final int REMEMBERED = 14;
    private static final int SLOTS = 2;
    private static final int NO_NODE = 0;
    private static final int GROUP_UNIT = 10000;

    private final Text text;
    private final Scheme scheme;
    private final Tree tree;
    private final TypeCheck types;
    private final History history;
    private final Scheme[] slots;
    private final boolean[] filled;
    private final Scheme draft;
    private final Term draftBody;
    private final Scheme copy;
    private final TypeCheck copyTypes;

    public RecursionSchemes() {
        text = new Text();
        scheme = new Scheme();
        tree = new Tree(scheme);
        types = new TypeCheck(scheme);
        history = new History();
        slots = new Scheme[SLOTS];
        for (int i = 0; i < SLOTS; i++) {
            slots[i] = new Scheme();
        }
        filled = new boolean[SLOTS];
        draft = new Scheme();
        draftBody = new Term(MAX_BODY);
        copy = new Scheme();
        copyTypes = new TypeCheck(copy);
    }

    // ---- setup text

    public int append(int c) {
        if (c < 0 || c > 255) {
            return BAD_VALUE;
        }
        return text.add(c) ? text.size() : FULL;
    }

    public int clearText() {
        int before = text.size();
        text.empty();
        return before;
    }

    public int errorPosition() {
        return text.readSetup(draft, draftBody);
    }

    public int load() {
        if (text.readSetup(draft, draftBody) != NONE) {
            return NOT_POSSIBLE;
        }
        scheme.become(draft);
        history.forget();
        for (int i = 0; i < SLOTS; i++) {
            filled[i] = false;
        }
        return scheme.transitionCount();
    }

    // ---- reading the state

    public int bodyLength(int n) {
        return isNonterminal(n) ? scheme.body(n).size() : NO_SUCH_INDEX;
    }

    public int bodySymbol(int n, int i) {
        if (!isNonterminal(n) || !scheme.body(n).holds(i)) {
            return NO_SUCH_INDEX;
        }
        return codeOf(scheme.body(n).symbol(i));
    }

    public int transition(int q, int t, int child) {
        if (!isState(q) || !isTerminal(t)) {
            return NO_SUCH_INDEX;
        }
        if (child < 1 || child > ARITIES[t]) {
            return BAD_VALUE;
        }
        return scheme.canRead(q, t) ? scheme.target(q, t, child) : NONE;
    }

    public int hasTransition(int q, int t) {
        if (!isState(q) || !isTerminal(t)) {
            return NO_SUCH_INDEX;
        }
        return scheme.canRead(q, t) ? 1 : 0;
    }

    public int reachable() {
        int reached = 1;
        // Each pass but the last one reaches a nonterminal more, so this many passes are enough.
        for (int pass = 0; pass < NONTERMINAL_COUNT; pass++) {
            for (int n = 0; n < NONTERMINAL_COUNT; n++) {
                if ((reached >> n & 1) != 0) {
                    reached |= scheme.body(n).nonterminals();
                }
            }
        }
        return reached;
    }

    // ---- actions

    public int setBody(int n) {
        if (!isNonterminal(n)) {
            return NO_SUCH_INDEX;
        }
        if (!text.isBody(n, draftBody)) {
            return NOT_POSSIBLE;
        }
        history.remember(scheme);
        scheme.changeBody(n, draftBody);
        return draftBody.size();
    }

    public int setTransition(int q, int t, int q1, int q2) {
        if (!isState(q) || !isTerminal(t)) {
            return NO_SUCH_INDEX;
        }
        if (!suitsChild(t, 1, q1) || !suitsChild(t, 2, q2)) {
            return BAD_VALUE;
        }
        int before = scheme.canRead(q, t) ? 1 : 0;
        history.remember(scheme);
        scheme.putTransition(q, t, q1, q2);
        return before;
    }

    public int removeTransition(int q, int t) {
        if (!isState(q) || !isTerminal(t)) {
            return NO_SUCH_INDEX;
        }
        if (!scheme.canRead(q, t)) {
            return NOT_POSSIBLE;
        }
        history.remember(scheme);
        scheme.dropTransition(q, t);
        return scheme.transitionCount();
    }

    public int inline(int n, int i) {
        if (!isNonterminal(n) || !scheme.body(n).holds(i)) {
            return NO_SUCH_INDEX;
        }
        int inner = scheme.body(n).symbol(i) - NONTERMINALS;
        if (!isNonterminal(inner)) {
            return NOT_POSSIBLE;
        }
        if (!draftBody.expand(scheme.body(n), i, scheme.body(inner))) {
            return FULL;
        }
        history.remember(scheme);
        scheme.changeBody(n, draftBody);
        return draftBody.size();
    }

    public int exchange() {
        history.remember(scheme);
        return scheme.swapFAndG();
    }

    public int undo() {
        return history.takeBack(scheme) ? history.size() : NOT_POSSIBLE;
    }

    // ---- the tree and the run

    public int labelAt(int path) {
        int node = nodeOf(path);
        if (node == NO_NODE) {
            return BAD_VALUE;
        }
        return tree.upToDate().labelCode(node);
    }

    public int expansionsAt(int path) {
        int node = nodeOf(path);
        if (node == NO_NODE) {
            return BAD_VALUE;
        }
        return tree.upToDate().expansionsTo(node);
    }

    public int stateAt(int path) {
        int node = nodeOf(path);
        if (node == NO_NODE) {
            return BAD_VALUE;
        }
        return tree.upToDate().stateOf(node);
    }

    public int nodesAtDepth(int depth) {
        return isDepth(depth) ? tree.upToDate().countAt(depth) : BAD_VALUE;
    }

    public int wrongBranch(int depth) {
        if (!isDepth(depth)) {
            return BAD_VALUE;
        }
        int node = tree.upToDate().firstWrong(depth);
        return node == NO_NODE ? NONE : pathOf(node);
    }

    // ---- types

    public int accepts() {
        return types.upToDate().acceptance();
    }

    public int rounds() {
        return types.upToDate().roundCount();
    }

    public int typingCount(int n) {
        return isNonterminal(n) ? types.upToDate().validCount(n) : NO_SUCH_INDEX;
    }

    public int isValid(int n, int q, int s1, int s2) {
        if (!isNonterminal(n) || !isState(q)) {
            return NO_SUCH_INDEX;
        }
        if (!suitsParameter(n, 1, s1) || !suitsParameter(n, 2, s2)) {
            return BAD_VALUE;
        }
        return types.upToDate().holds(n, q, setsOf(s1, s2)) ? 1 : 0;
    }

    public int demand(int n, int q, int k) {
        if (!isNonterminal(n) || !isState(q)) {
            return NO_SUCH_INDEX;
        }
        if (k < 1 || k > arityOfNonterminal(n)) {
            return BAD_VALUE;
        }
        return types.upToDate().commonSet(n, q, k);
    }

    // ---- scripts, random descents

    public int runScript(int n, long script) {
        if (n < 1 || n > MAX_COMMANDS || script < 0 || withoutLastGroups(script, n) != 0) {
            return BAD_VALUE;
        }
        copy.become(scheme);
        for (int i = 0; i < n; i++) {
            int group = (int) (withoutLastGroups(script, n - 1 - i) % GROUP_UNIT);
            if (!commandSucceeds(group)) {
                return i;
            }
        }
        return NONE;
    }

    public int descend(long seed, int m) {
        if (m < 1 || m > MAX_DESCENTS) {
            return BAD_VALUE;
        }
        tree.upToDate();
        long z = seed;
        int sum = 0;
        for (int i = 0; i < m; i++) {
            int node = Tree.ROOT;
            for (int depth = 0; depth < MAX_DEPTH; depth++) {
                int children = tree.childCount(node);
                if (children <= 0) {
                    break;
                }
                z = z * 6364136223846793005L + 1442695040888963407L;
                node = childOf(node, 1 + (int) (z >>> 33) % children);
                sum++;
            }
        }
        return sum;
    }

    // ---- save slots

    public int save(int slot) {
        if (slot < 0 || slot >= SLOTS) {
            return NO_SUCH_INDEX;
        }
        slots[slot].become(scheme);
        filled[slot] = true;
        return scheme.transitionCount();
    }

    public int restore(int slot) {
        if (slot < 0 || slot >= SLOTS) {
            return NO_SUCH_INDEX;
        }
        if (!filled[slot]) {
            return NOT_POSSIBLE;
        }
        scheme.become(slots[slot]);
        history.forget();
        return scheme.transitionCount();
    }

    // ---- helpers

    private static long withoutLastGroups(long script, int count) {
        long rest = script;
        for (int i = 0; i < count; i++) {
            rest /= GROUP_UNIT;
        }
        return rest;
    }

    private boolean commandSucceeds(int group) {
        int second = group / 100 % 10;
        int third = group / 10 % 10;
        int fourth = group % 10;
        int number = group % 100;
        switch (group / 1000) {
            case 1:
                return fourth == 0 && removeFromCopy(second, third);
            case 2:
                return fourth == 0 && setBInCopy(second, third);
            case 3:
                return second == 0 && third == 0 && fourth == copyTypes.upToDate().acceptance();
            case 4:
                return isNonterminal(second) && number == copyTypes.upToDate().validCount(second);
            case 5:
                // No command changes a body, so the tree of the copy is the present one.
                return isDepth(second) && number == tree.upToDate().countAt(second);
            case 6:
                return second == 0 && number == copyTypes.upToDate().roundCount();
            default:
                return false;
        }
    }

    private boolean removeFromCopy(int q, int t) {
        if (!isState(q) || !isTerminal(t) || !copy.canRead(q, t)) {
            return false;
        }
        copy.dropTransition(q, t);
        return true;
    }

    private boolean setBInCopy(int q, int target) {
        if (!isState(q) || !isState(target)) {
            return false;
        }
        copy.putTransition(q, B, target, 0);
        return true;
    }

    private static boolean isNonterminal(int n) {
        return n >= 0 && n < NONTERMINAL_COUNT;
    }

    private static boolean isTerminal(int t) {
        return t >= 0 && t < TERMINALS;
    }

    private static boolean isState(int q) {
        return q >= 0 && q < STATES;
    }

    private static boolean isDepth(int depth) {
        return depth >= 0 && depth <= MAX_DEPTH;
    }

    private static boolean suitsChild(int t, int child, int q) {
        return child <= arityOf(t) ? isState(q) : q == 0;
    }

    private static boolean suitsParameter(int n, int k, int set) {
        return k <= arityOfNonterminal(n) ? set >= 0 && set <= ALL_STATES : set == 0;
    }

    private static int arityOf(int symbol) {
        return symbol >= 0 && symbol < ARITIES.length ? ARITIES[symbol] : 0;
    }

    private static int arityOfNonterminal(int n) {
        return arityOf(NONTERMINALS + n);
    }

    private static int codeOf(int symbol) {
        return symbol >= 0 && symbol < SYMBOLS.length() ? SYMBOLS.charAt(symbol) : UNDEFINED;
    }

    private static int setsOf(int first, int second) {
        return first + (ALL_STATES + 1) * second;
    }

    private static int firstOf(int sets) {
        return sets & ALL_STATES;
    }

    private static int secondOf(int sets) {
        return sets >> STATES;
    }

    private static int childOf(int node, int child) {
        return 2 * node + child - 1;
    }

    /** The node that a path leads to, or NO_NODE if the path is a bad value. */
    private static int nodeOf(int path) {
        if (path < 0 || path > MAX_PATH) {
            return NO_NODE;
        }
        int node = Tree.ROOT;
        for (int unit = (MAX_PATH + 1) / 10; unit > 0; unit /= 10) {
            if (path >= unit) {
                int digit = path / unit % 10;
                if (digit != 1 && digit != 2) {
                    return NO_NODE;
                }
                node = childOf(node, digit);
            }
        }
        return node;
    }

    private static int pathOf(int node) {
        int path = 0;
        int unit = 1;
        for (int rest = node; rest > Tree.ROOT; rest >>= 1) {
            path += unit * (1 + (rest & 1));
            unit *= 10;
        }
        return path;
    }

    /** A sequence of symbols of a bounded length; whole terms, but for moments while one is built. */
    private static final class Term {
        private final byte[] symbols;
        private int length;

        Term(int capacity) {
            symbols = new byte[Math.max(capacity, 1)];
            length = 0;
        }

        int size() {
            return length;
        }

        boolean holds(int i) {
            return i >= 0 && i < length;
        }

        int symbol(int i) {
            return holds(i) ? symbols[i] : NO_SYMBOL;
        }

        void empty() {
            length = 0;
        }

        boolean add(int symbol) {
            if (length >= symbols.length) {
                return false;
            }
            symbols[length] = (byte) symbol;
            length++;
            return true;
        }

        boolean addPart(Term source, int from, int to) {
            int count = to - from;
            if (from < 0 || count < 0 || to > source.length || count > symbols.length - length) {
                return false;
            }
            System.arraycopy(source.symbols, from, symbols, length, count);
            length += count;
            return true;
        }

        void become(Term source) {
            length = 0;
            addPart(source, 0, source.length);
        }

        /** The index behind the term that begins at start. */
        int endOf(int start) {
            int open = 1;
            int end = Math.max(start, 0);
            while (open > 0 && end < length) {
                open += arityOf(symbols[end]) - 1;
                end++;
            }
            return end;
        }

        /**
         * Becomes the source with its term at an index expanded by a body. False if there is no
         * room for that; then this term is of no use. It is never the source or the body itself.
         */
        boolean expand(Term source, int at, Term body) {
            int first = at + 1;
            int second = source.endOf(first);
            int behind = source.endOf(at);
            length = 0;
            boolean fits = addPart(source, 0, at);
            for (int i = 0; fits && i < body.length; i++) {
                if (body.symbols[i] == X) {
                    fits = addPart(source, first, second);
                } else if (body.symbols[i] == Y) {
                    fits = addPart(source, second, behind);
                } else {
                    fits = add(body.symbols[i]);
                }
            }
            return fits && addPart(source, behind, source.length);
        }

        int nonterminals() {
            int found = 0;
            for (int i = 0; i < length; i++) {
                int n = symbols[i] - NONTERMINALS;
                if (isNonterminal(n)) {
                    found |= 1 << n;
                }
            }
            return found;
        }

        int swapSymbols(int one, int other) {
            int swapped = 0;
            for (int i = 0; i < length; i++) {
                if (symbols[i] == one || symbols[i] == other) {
                    symbols[i] = (byte) (one + other - symbols[i]);
                    swapped++;
                }
            }
            return swapped;
        }
    }

    /** The state: four bodies and the transitions. */
    private static final class Scheme {
        private static final int NO_TRANSITION = -1;

        private final Term[] bodies;
        private final int[] firstTargets;
        private final int[] secondTargets;
        private int edits;

        Scheme() {
            bodies = new Term[NONTERMINAL_COUNT];
            for (int n = 0; n < NONTERMINAL_COUNT; n++) {
                bodies[n] = new Term(MAX_BODY);
            }
            firstTargets = new int[STATES * TERMINALS];
            secondTargets = new int[STATES * TERMINALS];
            edits = 0;
            reset();
        }

        /** Grows with each change, so that tree and types know when theirs are old. */
        int edits() {
            return edits;
        }

        void reset() {
            for (int n = 0; n < NONTERMINAL_COUNT; n++) {
                bodies[n].empty();
                bodies[n].add(C);
            }
            Arrays.fill(firstTargets, NO_TRANSITION);
            Arrays.fill(secondTargets, NO_TRANSITION);
            edits++;
        }

        void become(Scheme other) {
            for (int n = 0; n < NONTERMINAL_COUNT; n++) {
                bodies[n].become(other.bodies[n]);
            }
            System.arraycopy(other.firstTargets, 0, firstTargets, 0, firstTargets.length);
            System.arraycopy(other.secondTargets, 0, secondTargets, 0, secondTargets.length);
            edits++;
        }

        /** For reading alone: a change goes through changeBody, which counts it. */
        Term body(int n) {
            return bodies[n];
        }

        void changeBody(int n, Term body) {
            bodies[n].become(body);
            edits++;
        }

        int swapFAndG() {
            int swapped = 0;
            for (int n = 0; n < NONTERMINAL_COUNT; n++) {
                swapped += bodies[n].swapSymbols(F, G);
            }
            Term bodyOfF = bodies[F - NONTERMINALS];
            bodies[F - NONTERMINALS] = bodies[G - NONTERMINALS];
            bodies[G - NONTERMINALS] = bodyOfF;
            edits++;
            return swapped;
        }

        boolean canRead(int q, int t) {
            return firstTargets[q * TERMINALS + t] != NO_TRANSITION;
        }

        int target(int q, int t, int child) {
            return child == 1 ? firstTargets[q * TERMINALS + t] : secondTargets[q * TERMINALS + t];
        }

        void putTransition(int q, int t, int q1, int q2) {
            firstTargets[q * TERMINALS + t] = q1;
            secondTargets[q * TERMINALS + t] = q2;
            edits++;
        }

        void dropTransition(int q, int t) {
            putTransition(q, t, NO_TRANSITION, NO_TRANSITION);
        }

        int transitionCount() {
            int count = 0;
            for (int i = 0; i < firstTargets.length; i++) {
                if (firstTargets[i] != NO_TRANSITION) {
                    count++;
                }
            }
            return count;
        }
    }

    /** The states before the last actions, in a ring. */
    private static final class History {
        private final Scheme[] states;
        private int next;
        private int count;

        History() {
            states = new Scheme[REMEMBERED];
            for (int i = 0; i < REMEMBERED; i++) {
                states[i] = new Scheme();
            }
            next = 0;
            count = 0;
        }

        int size() {
            return count;
        }

        void forget() {
            count = 0;
        }

        void remember(Scheme state) {
            states[next].become(state);
            next = (next + 1) % REMEMBERED;
            count = Math.min(count + 1, REMEMBERED);
        }

        boolean takeBack(Scheme state) {
            if (count == 0) {
                return false;
            }
            next = (next + REMEMBERED - 1) % REMEMBERED;
            count--;
            state.become(states[next]);
            return true;
        }
    }

    /** The text buffer and its reader, which stops at the first character that is not allowed. */
    private static final class Text {
        private static final int NO_CHARACTER = -1;

        private final int[] characters;
        private int length;
        private int position;

        Text() {
            characters = new int[MAX_TEXT];
            length = 0;
            position = 0;
        }

        int size() {
            return length;
        }

        void empty() {
            length = 0;
        }

        boolean add(int c) {
            if (length >= characters.length) {
                return false;
            }
            characters[length] = c;
            length++;
            return true;
        }

        /** Reads a setup into a state, with a term to build bodies in: the error position or NONE. */
        int readSetup(Scheme state, Term body) {
            state.reset();
            position = 0;
            // An item has more than one character, so there are fewer items than characters.
            for (int items = 0; items < MAX_TEXT && position < length; items++) {
                if (!readItem(state, body)) {
                    return position;
                }
            }
            return NONE;
        }

        boolean isBody(int n, Term body) {
            position = 0;
            return readBody(n, body) && position == length;
        }

        private boolean readItem(Scheme state, Term body) {
            int n = symbolHere() - NONTERMINALS;
            if (isNonterminal(n)) {
                position++;
                return readRule(n, state, body);
            }
            int q = stateHere();
            if (isState(q)) {
                position++;
                return readTransition(q, state);
            }
            return false;
        }

        private boolean readRule(int n, Scheme state, Term body) {
            if (!skip('=') || !readBody(n, body) || !skip(';')) {
                return false;
            }
            state.changeBody(n, body);
            return true;
        }

        private boolean readTransition(int q, Scheme state) {
            int t = symbolHere();
            if (!isTerminal(t)) {
                return false;
            }
            position++;
            int q1 = 0;
            int q2 = 0;
            for (int child = 1; child <= arityOf(t); child++) {
                int target = stateHere();
                if (!isState(target)) {
                    return false;
                }
                position++;
                if (child == 1) {
                    q1 = target;
                } else {
                    q2 = target;
                }
            }
            if (!skip(';')) {
                return false;
            }
            state.putTransition(q, t, q1, q2);
            return true;
        }

        private boolean readBody(int n, Term body) {
            body.empty();
            int open = 1;
            for (int read = 0; open > 0 && read < MAX_BODY; read++) {
                int symbol = symbolHere();
                if (!mayContain(n, symbol)) {
                    return false;
                }
                body.add(symbol);
                position++;
                open += arityOf(symbol) - 1;
            }
            return open == 0;
        }

        private static boolean mayContain(int n, int symbol) {
            if (symbol == X) {
                return arityOf(NONTERMINALS + n) >= 1;
            }
            if (symbol == Y) {
                return arityOf(NONTERMINALS + n) >= 2;
            }
            return symbol != NO_SYMBOL;
        }

        private boolean skip(int character) {
            if (characterHere() != character) {
                return false;
            }
            position++;
            return true;
        }

        private int characterHere() {
            return position >= 0 && position < length ? characters[position] : NO_CHARACTER;
        }

        private int symbolHere() {
            int c = characterHere();
            return c == NO_CHARACTER ? NO_SYMBOL : SYMBOLS.indexOf((char) c);
        }

        private int stateHere() {
            return characterHere() - '0';
        }
    }

    /**
     * The tree of a scheme down to MAX_DEPTH, with the run on it. The children of a node have twice
     * its number and one more, so the numbers go up with the depth and, in it, with the paths.
     */
    private static final class Tree {
        static final int ROOT = 1;
        private static final int END = 2 << MAX_DEPTH;
        private static final int ABSENT = -1;
        private static final int FAILED = -2;

        private final Scheme scheme;
        private final Term[] terms;
        private final Term spare;
        private final int[] labels;
        private final int[] expansions;
        private final int[] states;
        private int seenEdits;

        Tree(Scheme scheme) {
            this.scheme = scheme;
            terms = new Term[MAX_DEPTH + 1];
            for (int depth = 0; depth <= MAX_DEPTH; depth++) {
                terms[depth] = new Term(MAX_TERM);
            }
            spare = new Term(MAX_TERM);
            labels = new int[END];
            expansions = new int[END];
            states = new int[END];
            seenEdits = -1;
        }

        Tree upToDate() {
            if (seenEdits != scheme.edits()) {
                Arrays.fill(labels, ABSENT);
                terms[0].empty();
                terms[0].add(S);
                unfold(this, ROOT, 0, 0);
                runAutomaton();
                seenEdits = scheme.edits();
            }
            return this;
        }

        int labelCode(int node) {
            if (!exists(node)) {
                return NONE;
            }
            return labels[node] == FAILED ? UNDEFINED : codeOf(labels[node]);
        }

        int expansionsTo(int node) {
            return exists(node) ? expansions[node] : NONE;
        }

        int stateOf(int node) {
            return exists(node) ? states[node] : NONE;
        }

        int childCount(int node) {
            return exists(node) ? arityOf(labels[node]) : 0;
        }

        int countAt(int depth) {
            int count = 0;
            for (int node = ROOT << depth; node < ROOT << (depth + 1); node++) {
                if (exists(node)) {
                    count++;
                }
            }
            return count;
        }

        int firstWrong(int depth) {
            for (int node = ROOT; node < ROOT << (depth + 1); node++) {
                if (isWrong(node)) {
                    return node;
                }
            }
            return NO_NODE;
        }

        private boolean exists(int node) {
            return node >= ROOT && node < END && labels[node] != ABSENT;
        }

        private boolean isWrong(int node) {
            return exists(node) && isState(states[node]) && isTerminal(labels[node])
                && !scheme.canRead(states[node], labels[node]);
        }

        /** The term of the node stands in the row of its depth; the rows below are free. */
        private static void unfold(Tree tree, int node, int depth, int madeAbove) {
            if (depth > MAX_DEPTH || node >= END) {
                return;
            }
            Term term = tree.terms[depth];
            int made = madeAbove + tree.evaluate(term);
            tree.expansions[node] = made;
            int label = term.symbol(0);
            tree.labels[node] = isTerminal(label) ? label : FAILED;
            if (depth == MAX_DEPTH || !isTerminal(label)) {
                return;
            }
            int start = 1;
            for (int child = 1; child <= arityOf(label); child++) {
                int end = term.endOf(start);
                tree.terms[depth + 1].empty();
                tree.terms[depth + 1].addPart(term, start, end);
                unfold(tree, childOf(node, child), depth + 1, made);
                start = end;
            }
        }

        /** Expands as long as it can and may, and says how many times it did. */
        private int evaluate(Term term) {
            for (int made = 0; made < MAX_EXPANSIONS; made++) {
                int n = term.symbol(0) - NONTERMINALS;
                if (!isNonterminal(n) || !spare.expand(term, 0, scheme.body(n))) {
                    return made;
                }
                term.become(spare);
            }
            return MAX_EXPANSIONS;
        }

        private void runAutomaton() {
            Arrays.fill(states, NONE);
            states[ROOT] = 0;
            for (int node = ROOT; 2 * node + 1 < END; node++) {
                int label = labels[node];
                if (isTerminal(label) && isState(states[node]) && scheme.canRead(states[node], label)) {
                    for (int child = 1; child <= arityOf(label); child++) {
                        states[childOf(node, child)] = scheme.target(states[node], label, child);
                    }
                }
            }
        }
    }

    /**
     * The type check. types[symbol][sets] are the states that a term with this first symbol has as
     * types if its arguments have just the types in sets. For a nonterminal these are the typings
     * with the parameter sets in sets itself, and no smaller sets need be looked at: in each round
     * a typing with larger sets is justified if one with smaller sets is, so if a typing is still
     * there, all those with larger sets are, too.
     */
    private static final class TypeCheck {
        private static final int SETTINGS = (ALL_STATES + 1) * (ALL_STATES + 1);
        private static final int ALL_TYPINGS = 243;

        private final Scheme scheme;
        private final byte[][] types;
        private final byte[][] justified;
        private final int[] stack;
        private int roundsMade;
        private int seenEdits;

        TypeCheck(Scheme scheme) {
            this.scheme = scheme;
            types = new byte[TERMINALS + NONTERMINAL_COUNT][SETTINGS];
            justified = new byte[NONTERMINAL_COUNT][SETTINGS];
            stack = new int[MAX_BODY];
            roundsMade = 0;
            seenEdits = -1;
        }

        TypeCheck upToDate() {
            if (seenEdits != scheme.edits()) {
                start();
                boolean removed = true;
                for (roundsMade = 0; removed && roundsMade <= ALL_TYPINGS; roundsMade++) {
                    removed = removeUnjustified();
                }
                seenEdits = scheme.edits();
            }
            return this;
        }

        int acceptance() {
            return holds(0, 0, 0) ? 1 : 0;
        }

        int roundCount() {
            return roundsMade;
        }

        boolean holds(int n, int q, int sets) {
            return (types[NONTERMINALS + n][sets] >> q & 1) != 0;
        }

        int validCount(int n) {
            int count = 0;
            for (int sets = 0; sets < settingsOf(n); sets++) {
                count += Integer.bitCount(types[NONTERMINALS + n][sets]);
            }
            return count;
        }

        int commonSet(int n, int q, int k) {
            int common = ALL_STATES;
            boolean found = false;
            for (int sets = 0; sets < settingsOf(n); sets++) {
                if (holds(n, q, sets)) {
                    common &= k == 1 ? firstOf(sets) : secondOf(sets);
                    found = true;
                }
            }
            return found ? common : NONE;
        }

        private static int settingsOf(int n) {
            return 1 << STATES * arityOfNonterminal(n);
        }

        private void start() {
            for (int t = 0; t < TERMINALS; t++) {
                for (int sets = 0; sets < SETTINGS; sets++) {
                    types[t][sets] = (byte) terminalTypes(t, sets);
                }
            }
            for (int n = 0; n < NONTERMINAL_COUNT; n++) {
                Arrays.fill(types[NONTERMINALS + n], (byte) ALL_STATES);
            }
        }

        private int terminalTypes(int t, int sets) {
            int found = 0;
            for (int q = 0; q < STATES; q++) {
                boolean fits = scheme.canRead(q, t);
                if (fits && arityOf(t) >= 1) {
                    fits = (firstOf(sets) >> scheme.target(q, t, 1) & 1) != 0;
                }
                if (fits && arityOf(t) >= 2) {
                    fits = (secondOf(sets) >> scheme.target(q, t, 2) & 1) != 0;
                }
                if (fits) {
                    found |= 1 << q;
                }
            }
            return found;
        }

        /** A round: all typings are judged by the set at its beginning, so none goes before the end. */
        private boolean removeUnjustified() {
            boolean removed = false;
            for (int n = 0; n < NONTERMINAL_COUNT; n++) {
                for (int sets = 0; sets < settingsOf(n); sets++) {
                    int before = types[NONTERMINALS + n][sets];
                    int after = before & bodyTypes(scheme.body(n), sets);
                    justified[n][sets] = (byte) after;
                    removed |= after != before;
                }
            }
            for (int n = 0; n < NONTERMINAL_COUNT; n++) {
                System.arraycopy(justified[n], 0, types[NONTERMINALS + n], 0, settingsOf(n));
            }
            return removed;
        }

        /** Goes from right to left, so that the types of the arguments are on the stack, first on top. */
        private int bodyTypes(Term body, int sets) {
            int top = 0;
            for (int i = body.size() - 1; i >= 0; i--) {
                int symbol = body.symbol(i);
                int arity = arityOf(symbol);
                if (top < arity || top - arity >= stack.length) {
                    return 0;
                }
                int first = arity >= 1 ? stack[top - 1] : 0;
                int second = arity >= 2 ? stack[top - 2] : 0;
                top -= arity;
                stack[top] = symbolTypes(symbol, setsOf(first, second), sets);
                top++;
            }
            return top == 1 ? stack[0] : 0;
        }

        private int symbolTypes(int symbol, int argumentSets, int sets) {
            if (symbol == X) {
                return firstOf(sets);
            }
            if (symbol == Y) {
                return secondOf(sets);
            }
            return symbol >= 0 && symbol < types.length ? types[symbol][argumentSets] : 0;
        }
    }
}
