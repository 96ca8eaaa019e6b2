import java.util.ArrayList;
import java.util.List;
import java.util.function.Supplier;
import java.util.function.ToIntFunction;

/**
 * "A call that returns an error changes nothing and is not an action." For each refused call, in
 * several situations: of two equal objects one gets the call, and all that can be asked of them
 * afterwards has to be the same.
 */
public final class RefusedCallsTest {
    private static final int NO_SUCH_INDEX = RecursionSchemes.NO_SUCH_INDEX;
    private static final int BAD_VALUE = RecursionSchemes.BAD_VALUE;
    private static final int NOT_POSSIBLE = RecursionSchemes.NOT_POSSIBLE;
    private static final int FULL = RecursionSchemes.FULL;
    private static final int NONE = RecursionSchemes.NONE;
    private static final int[] FAR = {Integer.MIN_VALUE, -1000000, 1000000, Integer.MAX_VALUE};

    private record Call(String name, ToIntFunction<RecursionSchemes> made, int due) {
    }

    private RefusedCallsTest() {
    }

    public static void main(String[] args) {
        inSituation("a new object", RefusedCallsTest::newObject, callsToANewObject());
        inSituation("a full history", RefusedCallsTest::fullHistory, callsToAFullHistory());
        inSituation("a full text", RefusedCallsTest::fullText, callsToAFullText());
        inSituation("a full body", RefusedCallsTest::fullBody, callsToAFullBody());
        Check.finish();
    }

    private static void inSituation(String name, Supplier<RecursionSchemes> situation, List<Call> own) {
        List<Call> calls = callsRefusedAlways();
        calls.addAll(own);
        String untouched = allThatCanBeAsked(situation.get());
        for (Call call : calls) {
            Check.part(name);
            RecursionSchemes x = situation.get();
            Check.due(call.name, call.made.applyAsInt(x), call.due);
            Check.due(call.name + ", again", call.made.applyAsInt(x), call.due);
            String after = allThatCanBeAsked(x);
            Check.holds(call.name + " changed " + untouched + " to " + after, after.equals(untouched));
        }
    }

    // ---- the situations

    private static RecursionSchemes newObject() {
        return new RecursionSchemes();
    }

    /** 14 states are remembered, so one action more would forget the oldest; both slots are filled. */
    private static RecursionSchemes fullHistory() {
        RecursionSchemes x = Check.loaded("S=aFcd;F=bx;H=axy;0b0;0d;");
        x.exchange();
        x.save(0);
        for (int i = 0; i < 13; i++) {
            x.setTransition(0, 0, i % 3, i / 3 % 3);
        }
        x.save(1);
        x.append('S');
        x.append('=');
        return x;
    }

    /** 99 characters that are no setup and no body; one state is remembered. */
    private static RecursionSchemes fullText() {
        RecursionSchemes x = Check.loaded("S=HcGd;G=bx;1b2;");
        Check.write(x, "0c;".repeat(32) + "0a1");
        x.inline(0, 2);
        x.save(1);
        return x;
    }

    /** The body of S has 30 symbols; the text is a body that only H may have. */
    private static RecursionSchemes fullBody() {
        RecursionSchemes x = Check.loaded("S=" + "b".repeat(28) + "Fd;F=bbx;");
        Check.write(x, "axy");
        return x;
    }

    // ---- the calls

    private static List<Call> callsToANewObject() {
        List<Call> calls = new ArrayList<>();
        add(calls, "setBody(0)", x -> x.setBody(0), NOT_POSSIBLE);
        add(calls, "setBody(3)", x -> x.setBody(3), NOT_POSSIBLE);
        add(calls, "removeTransition(0, 0)", x -> x.removeTransition(0, 0), NOT_POSSIBLE);
        add(calls, "removeTransition(2, 3)", x -> x.removeTransition(2, 3), NOT_POSSIBLE);
        add(calls, "inline(0, 0)", x -> x.inline(0, 0), NOT_POSSIBLE);
        add(calls, "inline(3, 0)", x -> x.inline(3, 0), NOT_POSSIBLE);
        add(calls, "inline(0, 1)", x -> x.inline(0, 1), NO_SUCH_INDEX);
        add(calls, "bodySymbol(0, 1)", x -> x.bodySymbol(0, 1), NO_SUCH_INDEX);
        add(calls, "undo()", RecursionSchemes::undo, NOT_POSSIBLE);
        add(calls, "restore(0)", x -> x.restore(0), NOT_POSSIBLE);
        add(calls, "restore(1)", x -> x.restore(1), NOT_POSSIBLE);
        add(calls, "transition(0, 0, 1)", x -> x.transition(0, 0, 1), NONE);
        add(calls, "demand(1, 0, 1)", x -> x.demand(1, 0, 1), NONE);
        add(calls, "labelAt(1)", x -> x.labelAt(1), NONE);
        return calls;
    }

    private static List<Call> callsToAFullHistory() {
        List<Call> calls = new ArrayList<>();
        add(calls, "load()", RecursionSchemes::load, NOT_POSSIBLE);
        add(calls, "setBody(0)", x -> x.setBody(0), NOT_POSSIBLE);
        add(calls, "setBody(3)", x -> x.setBody(3), NOT_POSSIBLE);
        add(calls, "removeTransition(1, 0)", x -> x.removeTransition(1, 0), NOT_POSSIBLE);
        add(calls, "removeTransition(2, 3)", x -> x.removeTransition(2, 3), NOT_POSSIBLE);
        add(calls, "inline(0, 0)", x -> x.inline(0, 0), NOT_POSSIBLE);
        add(calls, "inline(0, 3)", x -> x.inline(0, 3), NOT_POSSIBLE);
        add(calls, "inline(0, 4)", x -> x.inline(0, 4), NO_SUCH_INDEX);
        add(calls, "inline(3, 1)", x -> x.inline(3, 1), NOT_POSSIBLE);
        add(calls, "a script that fails", x -> x.runScript(4, 1000101020209999L), 3);
        return calls;
    }

    private static List<Call> callsToAFullText() {
        List<Call> calls = new ArrayList<>();
        add(calls, "append(83)", x -> x.append('S'), FULL);
        add(calls, "append(0)", x -> x.append(0), FULL);
        add(calls, "append(255)", x -> x.append(255), FULL);
        add(calls, "load()", RecursionSchemes::load, NOT_POSSIBLE);
        for (int n = 0; n < 4; n++) {
            int each = n;
            add(calls, "setBody(" + n + ")", x -> x.setBody(each), NOT_POSSIBLE);
        }
        add(calls, "removeTransition(0, 2)", x -> x.removeTransition(0, 2), NOT_POSSIBLE);
        add(calls, "restore(0)", x -> x.restore(0), NOT_POSSIBLE);
        return calls;
    }

    private static List<Call> callsToAFullBody() {
        List<Call> calls = new ArrayList<>();
        add(calls, "inline(0, 28)", x -> x.inline(0, 28), FULL);
        add(calls, "inline(0, 29)", x -> x.inline(0, 29), NOT_POSSIBLE);
        add(calls, "inline(0, 30)", x -> x.inline(0, 30), NO_SUCH_INDEX);
        add(calls, "bodySymbol(0, 30)", x -> x.bodySymbol(0, 30), NO_SUCH_INDEX);
        for (int n = 0; n < 3; n++) {
            int each = n;
            add(calls, "setBody(" + n + ")", x -> x.setBody(each), NOT_POSSIBLE);
        }
        add(calls, "load()", RecursionSchemes::load, NOT_POSSIBLE);
        add(calls, "undo()", RecursionSchemes::undo, NOT_POSSIBLE);
        return calls;
    }

    private static List<Call> callsRefusedAlways() {
        List<Call> calls = new ArrayList<>();
        textAndSlots(calls);
        nonterminals(calls);
        transitions(calls);
        valuesOfTransitions(calls);
        pathsAndDepths(calls);
        types(calls);
        scriptsAndDescents(calls);
        return calls;
    }

    private static void add(List<Call> calls, String name, ToIntFunction<RecursionSchemes> made, int due) {
        calls.add(new Call(name, made, due));
    }

    /** The values just outside a range, and far ones. */
    private static List<Integer> outside(int low, int high) {
        List<Integer> values = new ArrayList<>(List.of(low - 1, high + 1));
        for (int value : FAR) {
            values.add(value);
        }
        return values;
    }

    private static void textAndSlots(List<Call> calls) {
        for (int c : outside(0, 255)) {
            add(calls, "append(" + c + ")", x -> x.append(c), BAD_VALUE);
        }
        for (int slot : outside(0, 1)) {
            add(calls, "save(" + slot + ")", x -> x.save(slot), NO_SUCH_INDEX);
            add(calls, "restore(" + slot + ")", x -> x.restore(slot), NO_SUCH_INDEX);
        }
    }

    private static void nonterminals(List<Call> calls) {
        for (int n : outside(0, 3)) {
            add(calls, "bodyLength(" + n + ")", x -> x.bodyLength(n), NO_SUCH_INDEX);
            add(calls, "bodySymbol(" + n + ", 0)", x -> x.bodySymbol(n, 0), NO_SUCH_INDEX);
            add(calls, "setBody(" + n + ")", x -> x.setBody(n), NO_SUCH_INDEX);
            add(calls, "inline(" + n + ", 0)", x -> x.inline(n, 0), NO_SUCH_INDEX);
            add(calls, "typingCount(" + n + ")", x -> x.typingCount(n), NO_SUCH_INDEX);
            add(calls, "isValid(" + n + ", 0, 0, 0)", x -> x.isValid(n, 0, 0, 0), NO_SUCH_INDEX);
            add(calls, "demand(" + n + ", 0, 1)", x -> x.demand(n, 0, 1), NO_SUCH_INDEX);
        }
        for (int i : outside(0, 29)) {
            add(calls, "bodySymbol(0, " + i + ")", x -> x.bodySymbol(0, i), NO_SUCH_INDEX);
            add(calls, "inline(0, " + i + ")", x -> x.inline(0, i), NO_SUCH_INDEX);
        }
    }

    private static void transitions(List<Call> calls) {
        for (int q : outside(0, 2)) {
            add(calls, "transition(" + q + ", 0, 1)", x -> x.transition(q, 0, 1), NO_SUCH_INDEX);
            add(calls, "hasTransition(" + q + ", 0)", x -> x.hasTransition(q, 0), NO_SUCH_INDEX);
            add(calls, "setTransition(" + q + ", 0, 0, 0)", x -> x.setTransition(q, 0, 0, 0), NO_SUCH_INDEX);
            add(calls, "removeTransition(" + q + ", 0)", x -> x.removeTransition(q, 0), NO_SUCH_INDEX);
            add(calls, "isValid(0, " + q + ", 0, 0)", x -> x.isValid(0, q, 0, 0), NO_SUCH_INDEX);
            add(calls, "demand(1, " + q + ", 1)", x -> x.demand(1, q, 1), NO_SUCH_INDEX);
        }
        for (int t : outside(0, 3)) {
            add(calls, "transition(0, " + t + ", 1)", x -> x.transition(0, t, 1), NO_SUCH_INDEX);
            add(calls, "hasTransition(0, " + t + ")", x -> x.hasTransition(0, t), NO_SUCH_INDEX);
            add(calls, "setTransition(0, " + t + ", 0, 0)", x -> x.setTransition(0, t, 0, 0), NO_SUCH_INDEX);
            add(calls, "removeTransition(0, " + t + ")", x -> x.removeTransition(0, t), NO_SUCH_INDEX);
        }
    }

    private static void valuesOfTransitions(List<Call> calls) {
        for (int child : outside(1, 2)) {
            add(calls, "transition(0, 0, " + child + ")", x -> x.transition(0, 0, child), BAD_VALUE);
        }
        add(calls, "transition(0, 1, 2)", x -> x.transition(0, 1, 2), BAD_VALUE);
        add(calls, "transition(0, 2, 1)", x -> x.transition(0, 2, 1), BAD_VALUE);
        add(calls, "transition(0, 3, 1)", x -> x.transition(0, 3, 1), BAD_VALUE);
        for (int q : outside(0, 2)) {
            add(calls, "setTransition(0, 0, " + q + ", 0)", x -> x.setTransition(0, 0, q, 0), BAD_VALUE);
            add(calls, "setTransition(0, 0, 0, " + q + ")", x -> x.setTransition(0, 0, 0, q), BAD_VALUE);
            add(calls, "setTransition(0, 1, " + q + ", 0)", x -> x.setTransition(0, 1, q, 0), BAD_VALUE);
        }
        add(calls, "setTransition(0, 1, 0, 1)", x -> x.setTransition(0, 1, 0, 1), BAD_VALUE);
        for (int t = 2; t <= 3; t++) {
            int each = t;
            add(calls, "setTransition(0, " + t + ", 1, 0)", x -> x.setTransition(0, each, 1, 0), BAD_VALUE);
            add(calls, "setTransition(0, " + t + ", 0, 1)", x -> x.setTransition(0, each, 0, 1), BAD_VALUE);
        }
    }

    private static void pathsAndDepths(List<Call> calls) {
        int[] paths = {-1, 3, 10, 20, 101, 222223, 1000000, 1111111, Integer.MIN_VALUE, Integer.MAX_VALUE};
        for (int path : paths) {
            add(calls, "labelAt(" + path + ")", x -> x.labelAt(path), BAD_VALUE);
            add(calls, "expansionsAt(" + path + ")", x -> x.expansionsAt(path), BAD_VALUE);
            add(calls, "stateAt(" + path + ")", x -> x.stateAt(path), BAD_VALUE);
        }
        for (int depth : outside(0, 6)) {
            add(calls, "nodesAtDepth(" + depth + ")", x -> x.nodesAtDepth(depth), BAD_VALUE);
            add(calls, "wrongBranch(" + depth + ")", x -> x.wrongBranch(depth), BAD_VALUE);
        }
    }

    private static void types(List<Call> calls) {
        for (int set : outside(0, 7)) {
            add(calls, "isValid(1, 0, " + set + ", 0)", x -> x.isValid(1, 0, set, 0), BAD_VALUE);
            add(calls, "isValid(3, 0, " + set + ", 0)", x -> x.isValid(3, 0, set, 0), BAD_VALUE);
            add(calls, "isValid(3, 0, 0, " + set + ")", x -> x.isValid(3, 0, 0, set), BAD_VALUE);
        }
        add(calls, "isValid(0, 0, 1, 0)", x -> x.isValid(0, 0, 1, 0), BAD_VALUE);
        add(calls, "isValid(0, 0, 0, 1)", x -> x.isValid(0, 0, 0, 1), BAD_VALUE);
        add(calls, "isValid(2, 0, 0, 1)", x -> x.isValid(2, 0, 0, 1), BAD_VALUE);
        for (int k : outside(1, 2)) {
            add(calls, "demand(3, 0, " + k + ")", x -> x.demand(3, 0, k), BAD_VALUE);
        }
        add(calls, "demand(0, 0, 1)", x -> x.demand(0, 0, 1), BAD_VALUE);
        add(calls, "demand(1, 0, 2)", x -> x.demand(1, 0, 2), BAD_VALUE);
    }

    private static void scriptsAndDescents(List<Call> calls) {
        for (int n : outside(1, 4)) {
            add(calls, "runScript(" + n + ", 2110)", x -> x.runScript(n, 2110), BAD_VALUE);
        }
        long[] scripts = {-1, Long.MIN_VALUE, 10000, Long.MAX_VALUE};
        for (long script : scripts) {
            add(calls, "runScript(1, " + script + ")", x -> x.runScript(1, script), BAD_VALUE);
        }
        add(calls, "runScript(4, 10^16)", x -> x.runScript(4, 10000000000000000L), BAD_VALUE);
        for (int m : outside(1, 30)) {
            add(calls, "descend(1, " + m + ")", x -> x.descend(1, m), BAD_VALUE);
        }
    }

    // ---- what can be asked

    /** Ends with calls that change the object, as what is remembered and the text are shown by them alone. */
    private static String allThatCanBeAsked(RecursionSchemes x) {
        StringBuilder all = new StringBuilder(treeAndTypes(x));
        all.append(Check.state(x));
        int left = 0;
        for (int i = 0; i < 20 && left >= 0; i++) {
            left = x.undo();
            all.append(" undo ").append(left).append(' ').append(x.transition(0, 0, 1));
            all.append(x.transition(0, 0, 2)).append(x.bodyLength(0));
        }
        all.append(Check.state(x));
        for (int slot = 0; slot < 2; slot++) {
            all.append(" restore ").append(x.restore(slot)).append(Check.state(x));
        }
        all.append(" text ").append(x.errorPosition());
        for (int n = 0; n < 4; n++) {
            all.append(' ').append(x.setBody(n));
        }
        return all.append(' ').append(x.load()).append(Check.state(x)).append(x.clearText()).toString();
    }

    private static String treeAndTypes(RecursionSchemes x) {
        StringBuilder all = new StringBuilder();
        int[] paths = {0, 1, 2, 11, 12, 21};
        for (int path : paths) {
            all.append(x.labelAt(path)).append('/').append(x.expansionsAt(path)).append('/').append(x.stateAt(path));
            all.append(' ');
        }
        all.append(x.nodesAtDepth(6)).append(' ').append(x.wrongBranch(6)).append(' ').append(x.accepts());
        all.append(' ').append(x.rounds()).append(' ').append(x.reachable()).append(' ').append(x.descend(3, 30));
        for (int n = 0; n < 4; n++) {
            all.append(' ').append(x.typingCount(n));
        }
        return all.append(' ').append(x.demand(3, 0, 2)).append(' ').toString();
    }
}
