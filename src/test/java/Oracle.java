import java.util.ArrayDeque;
import java.util.ArrayList;
import java.util.Deque;
import java.util.HashMap;
import java.util.HashSet;
import java.util.List;
import java.util.Map;
import java.util.Set;

/**
 * The document once more, by its words and without any care for speed: terms are strings, typings
 * are strings in a set, nothing is kept from call to call. The program is compared with it.
 */
final class Oracle {
    private static final String TERMINALS = "abcd";
    private static final String NONTERMINALS = "SFGH";

    static final class State {
        String[] bodies = {"c", "c", "c", "c"};
        Map<String, String> transitions = new HashMap<>();

        State copy() {
            State other = new State();
            other.bodies = bodies.clone();
            other.transitions = new HashMap<>(transitions);
            return other;
        }
    }

    private State state = new State();
    private String text = "";
    private final Deque<State> remembered = new ArrayDeque<>();
    private final State[] slots = new State[2];

    private static int arity(char symbol) {
        return "aH".indexOf(symbol) >= 0 ? 2 : "bFG".indexOf(symbol) >= 0 ? 1 : 0;
    }

    private static List<String> arguments(String term) {
        List<String> found = new ArrayList<>();
        int at = 1;
        for (int k = 0; k < arity(term.charAt(0)); k++) {
            String argument = termAt(term, at);
            found.add(argument);
            at += argument.length();
        }
        return found;
    }

    private static String termAt(String symbols, int start) {
        int at = start + 1;
        for (int k = 0; k < arity(symbols.charAt(start)); k++) {
            at += termAt(symbols, at).length();
        }
        return symbols.substring(start, at);
    }

    private static String expanded(State s, String term) {
        String body = s.bodies[NONTERMINALS.indexOf(term.charAt(0))];
        List<String> arguments = arguments(term);
        StringBuilder result = new StringBuilder();
        for (char symbol : body.toCharArray()) {
            if (symbol == 'x') {
                result.append(arguments.get(0));
            } else if (symbol == 'y') {
                result.append(arguments.get(1));
            } else {
                result.append(symbol);
            }
        }
        return result.toString();
    }

    // ---- setup text

    int append(int c) {
        if (c < 0 || c > 255) {
            return -2;
        }
        if (text.length() == 99) {
            return -4;
        }
        text += (char) c;
        return text.length();
    }

    int clearText() {
        int before = text.length();
        text = "";
        return before;
    }

    /** Whether a text, not a whole one perhaps, is the beginning of a setup with no 31st symbol. */
    private static boolean canGoOn(String beginning) {
        String item = beginning.substring(beginning.lastIndexOf(';') + 1);
        for (String whole : beginning.substring(0, beginning.length() - item.length()).split(";", -1)) {
            if (!whole.isEmpty() && !isItem(whole)) {
                return false;
            }
        }
        if (beginning.startsWith(";") || beginning.contains(";;")) {
            return false;
        }
        return item.isEmpty() || isItemBeginning(item);
    }

    private static boolean isItem(String item) {
        if (item.matches("[SFGH]=.*") && item.length() > 2) {
            return isBody(NONTERMINALS.indexOf(item.charAt(0)), item.substring(2));
        }
        return item.matches("[012]a[012][012]|[012]b[012]|[012][cd]");
    }

    private static boolean isItemBeginning(String item) {
        if (item.matches("[012]|[012]a|[012]a[012]|[012]a[012][012]|[012]b|[012]b[012]|[012][cd]|[SFGH]=?")) {
            return true;
        }
        if (!item.matches("[SFGH]=[abcdSFGHxy]+") || item.length() > 32) {
            return false;
        }
        String symbols = item.substring(2);
        if (!symbols.matches(allowed(item.charAt(0)) + "+")) {
            return false;
        }
        int open = 1;
        for (char symbol : symbols.toCharArray()) {
            if (open == 0) {
                return false;
            }
            open += arity(symbol) - 1;
        }
        return true;
    }

    private static String allowed(char nonterminal) {
        return nonterminal == 'S' ? "[abcdSFGH]" : nonterminal == 'H' ? "[abcdSFGHxy]" : "[abcdSFGHx]";
    }

    private static boolean isBody(int n, String symbols) {
        if (symbols.length() > 30 || !symbols.matches(allowed(NONTERMINALS.charAt(n)) + "+")) {
            return false;
        }
        int open = 1;
        for (int i = 0; i < symbols.length(); i++) {
            open += arity(symbols.charAt(i)) - 1;
            if (open == 0) {
                return i == symbols.length() - 1;
            }
        }
        return false;
    }

    int errorPosition() {
        for (int i = 0; i < text.length(); i++) {
            if (!canGoOn(text.substring(0, i + 1))) {
                return i;
            }
        }
        return text.isEmpty() || text.endsWith(";") ? -9 : text.length();
    }

    int load() {
        if (errorPosition() != -9) {
            return -3;
        }
        state = new State();
        for (String item : text.split(";")) {
            if (item.isEmpty()) {
                continue;
            }
            if (item.charAt(1) == '=') {
                state.bodies[NONTERMINALS.indexOf(item.charAt(0))] = item.substring(2);
            } else {
                state.transitions.put(item.substring(0, 2), item.substring(2));
            }
        }
        remembered.clear();
        slots[0] = null;
        slots[1] = null;
        return state.transitions.size();
    }

    // ---- reading the state

    private static boolean in(int value, int low, int high) {
        return value >= low && value <= high;
    }

    private static String key(int q, int t) {
        return "" + q + TERMINALS.charAt(t);
    }

    int bodyLength(int n) {
        return in(n, 0, 3) ? state.bodies[n].length() : -1;
    }

    int bodySymbol(int n, int i) {
        return in(n, 0, 3) && in(i, 0, state.bodies[n].length() - 1) ? state.bodies[n].charAt(i) : -1;
    }

    int transition(int q, int t, int child) {
        if (!in(q, 0, 2) || !in(t, 0, 3)) {
            return -1;
        }
        if (!in(child, 1, arity(TERMINALS.charAt(t)))) {
            return -2;
        }
        String targets = state.transitions.get(key(q, t));
        return targets == null ? -9 : targets.charAt(child - 1) - '0';
    }

    int hasTransition(int q, int t) {
        if (!in(q, 0, 2) || !in(t, 0, 3)) {
            return -1;
        }
        return state.transitions.containsKey(key(q, t)) ? 1 : 0;
    }

    int reachable() {
        Set<Integer> reached = new HashSet<>();
        reach(0, reached);
        int bits = 0;
        for (int n : reached) {
            bits += 1 << n;
        }
        return bits;
    }

    private void reach(int n, Set<Integer> reached) {
        if (reached.add(n)) {
            for (char symbol : state.bodies[n].toCharArray()) {
                if (NONTERMINALS.indexOf(symbol) >= 0) {
                    reach(NONTERMINALS.indexOf(symbol), reached);
                }
            }
        }
    }

    // ---- actions

    private void remember() {
        remembered.addLast(state.copy());
        if (remembered.size() > 14) {
            remembered.removeFirst();
        }
    }

    int setBody(int n) {
        if (!in(n, 0, 3)) {
            return -1;
        }
        if (!isBody(n, text)) {
            return -3;
        }
        remember();
        state.bodies[n] = text;
        return text.length();
    }

    int setTransition(int q, int t, int q1, int q2) {
        if (!in(q, 0, 2) || !in(t, 0, 3)) {
            return -1;
        }
        int arity = arity(TERMINALS.charAt(t));
        if (!in(q1, 0, arity >= 1 ? 2 : 0) || !in(q2, 0, arity == 2 ? 2 : 0)) {
            return -2;
        }
        remember();
        return state.transitions.put(key(q, t), ("" + q1 + q2).substring(0, arity)) == null ? 0 : 1;
    }

    int removeTransition(int q, int t) {
        if (!in(q, 0, 2) || !in(t, 0, 3)) {
            return -1;
        }
        if (!state.transitions.containsKey(key(q, t))) {
            return -3;
        }
        remember();
        state.transitions.remove(key(q, t));
        return state.transitions.size();
    }

    int inline(int n, int i) {
        if (!in(n, 0, 3) || !in(i, 0, state.bodies[n].length() - 1)) {
            return -1;
        }
        String body = state.bodies[n];
        if (NONTERMINALS.indexOf(body.charAt(i)) < 0) {
            return -3;
        }
        String inner = termAt(body, i);
        String result = body.substring(0, i) + expanded(state, inner) + body.substring(i + inner.length());
        if (result.length() > 30) {
            return -4;
        }
        remember();
        state.bodies[n] = result;
        return result.length();
    }

    int exchange() {
        remember();
        int count = 0;
        for (int n = 0; n < 4; n++) {
            String body = state.bodies[n];
            count += body.replaceAll("[^FG]", "").length();
            state.bodies[n] = body.replace('F', '?').replace('G', 'F').replace('?', 'G');
        }
        String bodyOfF = state.bodies[1];
        state.bodies[1] = state.bodies[2];
        state.bodies[2] = bodyOfF;
        return count;
    }

    int undo() {
        if (remembered.isEmpty()) {
            return -3;
        }
        state = remembered.removeLast();
        return remembered.size();
    }

    // ---- the tree and the run

    private static final class Node {
        char label;
        int expansions;
        boolean failed;
        List<String> children = new ArrayList<>();
    }

    private static Node evaluated(State s, String start) {
        Node node = new Node();
        String term = start;
        while (NONTERMINALS.indexOf(term.charAt(0)) >= 0) {
            if (node.expansions == 40) {
                node.failed = true;
                return node;
            }
            String next = expanded(s, term);
            if (next.length() > 200) {
                node.failed = true;
                return node;
            }
            term = next;
            node.expansions++;
        }
        node.label = term.charAt(0);
        node.children = arguments(term);
        return node;
    }

    private static boolean badPath(int path) {
        return path != 0 && !Integer.toString(path).matches("[12]{1,6}");
    }

    private static String digits(int path) {
        return path == 0 ? "" : Integer.toString(path);
    }

    /** The nodes from the root to the one at the path, or null. */
    private static List<Node> nodesTo(State s, String path) {
        List<Node> nodes = new ArrayList<>();
        nodes.add(evaluated(s, "S"));
        for (char digit : path.toCharArray()) {
            Node last = nodes.get(nodes.size() - 1);
            if (digit - '0' > last.children.size()) {
                return null;
            }
            nodes.add(evaluated(s, last.children.get(digit - '1')));
        }
        return nodes;
    }

    int labelAt(int path) {
        if (badPath(path)) {
            return -2;
        }
        List<Node> nodes = nodesTo(state, digits(path));
        if (nodes == null) {
            return -9;
        }
        Node last = nodes.get(nodes.size() - 1);
        return last.failed ? 0 : last.label;
    }

    int expansionsAt(int path) {
        if (badPath(path)) {
            return -2;
        }
        List<Node> nodes = nodesTo(state, digits(path));
        if (nodes == null) {
            return -9;
        }
        int sum = 0;
        for (Node node : nodes) {
            sum += node.expansions;
        }
        return sum;
    }

    private int stateTo(String path) {
        List<Node> nodes = nodesTo(state, path);
        if (nodes == null) {
            return -9;
        }
        int q = 0;
        for (int i = 0; i < path.length(); i++) {
            String targets = state.transitions.get("" + q + nodes.get(i).label);
            if (targets == null) {
                return -9;
            }
            q = targets.charAt(path.charAt(i) - '1') - '0';
        }
        return q;
    }

    int stateAt(int path) {
        return badPath(path) ? -2 : stateTo(digits(path));
    }

    private static int count(State s, String term, int depth) {
        if (depth == 0) {
            return 1;
        }
        int sum = 0;
        for (String child : evaluated(s, term).children) {
            sum += count(s, child, depth - 1);
        }
        return sum;
    }

    int nodesAtDepth(int depth) {
        return in(depth, 0, 6) ? count(state, "S", depth) : -2;
    }

    int wrongBranch(int depth) {
        if (!in(depth, 0, 6)) {
            return -2;
        }
        List<String> level = List.of("");
        for (int d = 0; d <= depth; d++) {
            List<String> below = new ArrayList<>();
            for (String path : level) {
                List<Node> nodes = nodesTo(state, path);
                if (nodes == null) {
                    continue;
                }
                Node last = nodes.get(nodes.size() - 1);
                int q = stateTo(path);
                if (q >= 0 && !last.failed && !state.transitions.containsKey("" + q + last.label)) {
                    return path.isEmpty() ? 0 : Integer.parseInt(path);
                }
                below.add(path + "1");
                below.add(path + "2");
            }
            level = below;
        }
        return -9;
    }

    // ---- types

    private static String typing(int n, int q, int s1, int s2) {
        return "" + n + q + s1 + s2;
    }

    private static int sets(int n, int k) {
        return k <= arity(NONTERMINALS.charAt(n)) ? 8 : 1;
    }

    private static Set<String> allTypings() {
        Set<String> all = new HashSet<>();
        for (int n = 0; n < 4; n++) {
            for (int q = 0; q < 3; q++) {
                for (int s1 = 0; s1 < sets(n, 1); s1++) {
                    for (int s2 = 0; s2 < sets(n, 2); s2++) {
                        all.add(typing(n, q, s1, s2));
                    }
                }
            }
        }
        return all;
    }

    private static boolean hasType(State s, Set<String> given, String term, int q, int[] env) {
        return (typesOf(s, given, term, env) >> q & 1) == 1;
    }

    /** All types at once: asking for each type of each argument by itself would take 3^30 steps. */
    private static int typesOf(State s, Set<String> given, String term, int[] env) {
        char symbol = term.charAt(0);
        if (symbol == 'x' || symbol == 'y') {
            return env[symbol - 'x'];
        }
        int[] argumentTypes = new int[2];
        List<String> arguments = arguments(term);
        for (int k = 0; k < arguments.size(); k++) {
            argumentTypes[k] = typesOf(s, given, arguments.get(k), env);
        }
        int types = 0;
        for (int q = 0; q < 3; q++) {
            boolean has = TERMINALS.indexOf(symbol) >= 0
                ? transitionFits(s.transitions.get("" + q + symbol), argumentTypes)
                : typingFits(given, NONTERMINALS.indexOf(symbol), q, argumentTypes);
            types |= has ? 1 << q : 0;
        }
        return types;
    }

    private static boolean transitionFits(String targets, int[] argumentTypes) {
        if (targets == null) {
            return false;
        }
        for (int k = 0; k < targets.length(); k++) {
            if ((argumentTypes[k] >> (targets.charAt(k) - '0') & 1) == 0) {
                return false;
            }
        }
        return true;
    }

    private static boolean typingFits(Set<String> given, int n, int q, int[] argumentTypes) {
        for (int s1 = 0; s1 < sets(n, 1); s1++) {
            for (int s2 = 0; s2 < sets(n, 2); s2++) {
                boolean covered = (s1 & ~argumentTypes[0]) == 0 && (s2 & ~argumentTypes[1]) == 0;
                if (covered && given.contains(typing(n, q, s1, s2))) {
                    return true;
                }
            }
        }
        return false;
    }

    private static int check(State s, Set<String> valid) {
        valid.addAll(allTypings());
        for (int round = 1; ; round++) {
            Set<String> justified = new HashSet<>();
            for (String typing : valid) {
                int[] env = {typing.charAt(2) - '0', typing.charAt(3) - '0'};
                if (hasType(s, valid, s.bodies[typing.charAt(0) - '0'], typing.charAt(1) - '0', env)) {
                    justified.add(typing);
                }
            }
            if (justified.size() == valid.size()) {
                return round;
            }
            valid.retainAll(justified);
        }
    }

    private static Set<String> validTypings(State s) {
        Set<String> valid = new HashSet<>();
        check(s, valid);
        return valid;
    }

    private static int acceptance(State s) {
        return validTypings(s).contains("0000") ? 1 : 0;
    }

    private static int countTypings(State s, int n) {
        return (int) validTypings(s).stream().filter(typing -> typing.charAt(0) == '0' + n).count();
    }

    int accepts() {
        return acceptance(state);
    }

    int rounds() {
        return check(state, new HashSet<>());
    }

    int typingCount(int n) {
        return in(n, 0, 3) ? countTypings(state, n) : -1;
    }

    int isValid(int n, int q, int s1, int s2) {
        if (!in(n, 0, 3) || !in(q, 0, 2)) {
            return -1;
        }
        if (!in(s1, 0, sets(n, 1) - 1) || !in(s2, 0, sets(n, 2) - 1)) {
            return -2;
        }
        return validTypings(state).contains(typing(n, q, s1, s2)) ? 1 : 0;
    }

    int demand(int n, int q, int k) {
        if (!in(n, 0, 3) || !in(q, 0, 2)) {
            return -1;
        }
        if (!in(k, 1, arity(NONTERMINALS.charAt(n)))) {
            return -2;
        }
        int result = -9;
        for (String typing : validTypings(state)) {
            if (typing.startsWith("" + n + q)) {
                int set = typing.charAt(1 + k) - '0';
                result = result == -9 ? set : result & set;
            }
        }
        return result;
    }

    // ---- scripts, random descents

    int runScript(int n, long script) {
        if (!in(n, 1, 4) || script < 0 || Long.toString(script).length() > 4 * n) {
            return -2;
        }
        String digits = "0".repeat(16) + script;
        digits = digits.substring(digits.length() - 4 * n);
        State copy = state.copy();
        for (int i = 0; i < n; i++) {
            if (!succeeds(copy, digits.substring(4 * i, 4 * i + 4))) {
                return i;
            }
        }
        return -9;
    }

    private static boolean succeeds(State copy, String group) {
        int number = Integer.parseInt(group.substring(2));
        if (group.matches("1[012][0123]0")) {
            return copy.transitions.remove(key(group.charAt(1) - '0', group.charAt(2) - '0')) != null;
        }
        if (group.matches("2[012][012]0")) {
            copy.transitions.put(group.charAt(1) + "b", group.substring(2, 3));
            return true;
        }
        if (group.matches("300[01]")) {
            return acceptance(copy) == number;
        }
        if (group.matches("4[0123]..")) {
            return countTypings(copy, group.charAt(1) - '0') == number;
        }
        if (group.matches("5[0123456]..")) {
            return count(copy, "S", group.charAt(1) - '0') == number;
        }
        return group.matches("60..") && check(copy, new HashSet<>()) == number;
    }

    int descend(long seed, int m) {
        if (!in(m, 1, 30)) {
            return -2;
        }
        long z = seed;
        int sum = 0;
        for (int i = 0; i < m; i++) {
            Node node = evaluated(state, "S");
            int depth = 0;
            while (!node.children.isEmpty() && depth < 6) {
                z = z * 6364136223846793005L + 1442695040888963407L;
                int k = node.children.size();
                int child = 1 + (int) (z >>> 33) % k;
                node = evaluated(state, node.children.get(child - 1));
                depth++;
            }
            sum += depth;
        }
        return sum;
    }

    // ---- save slots

    int save(int slot) {
        if (!in(slot, 0, 1)) {
            return -1;
        }
        slots[slot] = state.copy();
        return state.transitions.size();
    }

    int restore(int slot) {
        if (!in(slot, 0, 1)) {
            return -1;
        }
        if (slots[slot] == null) {
            return -3;
        }
        state = slots[slot].copy();
        remembered.clear();
        return state.transitions.size();
    }
}
