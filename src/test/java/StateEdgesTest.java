/**
 * The edges that the section "Description" names for the setup text, actions and undo, scripts and
 * errors: a test for each sentence.
 */
public final class StateEdgesTest {
    private static final int NONE = RecursionSchemes.NONE;
    /** With those that load it, an object is never asked more than 512 times. */
    private static final int CALLS_OF_AN_OBJECT = 400;
    private static final String NEW_STATE = "S=c;F=c;G=c;H=c;";
    private static final String OTHER_GROUPS = "Any other group fails.";
    /** What the document says of the groups from each thousand on. */
    private static final String[] COMMANDS = {
        OTHER_GROUPS,
        "1 q t 0: removes the transition of state q, 0 to 2, and terminal t, 0 to 3; fails if there is none.",
        "2 q s 0: gives the terminal b a transition from state q to state s, both 0 to 2.",
        "3 0 0 r: succeeds if r is 1 and the automaton accepts the tree, or r is 0 and it does not.",
        "4 n x y: succeeds if nonterminal n, 0 to 3, has exactly xy valid typings.",
        "5 d x y: succeeds if the tree has exactly xy nodes at depth d, 0 to 6.",
        "6 0 x y: succeeds if the type check has exactly xy rounds.",
        OTHER_GROUPS, OTHER_GROUPS, OTHER_GROUPS
    };

    private StateEdgesTest() {
    }

    public static void main(String[] args) {
        setupText();
        actions();
        scripts();
        errors();
        calls();
        Check.finish();
    }

    private static void due(String call, long got, long want) {
        Check.due(call, got, want);
    }

    private static String times(String symbols, int count) {
        return symbols.repeat(count);
    }

    // ---- setup text

    private static void setupText() {
        roomOfTheText();
        noItems();
        itemsEndWithASemicolon();
        noOtherSeparators();
        ruleBegins();
        transitionsInTheText();
        statesInTheText();
        lastOneCounts();
        readFromLeftToRight();
        endInTheMiddle();
        symbol31();
        behindACompleteBody();
    }

    private static void roomOfTheText() {
        Check.sentence("SETUP TEXT", "The object has a text buffer of at most 99 characters.");
        RecursionSchemes x = new RecursionSchemes();
        Check.write(x, times("0c;", 32) + "S=");
        due("append, the 99th", x.append('d'), 99);
        due("append, the 100th", x.append(';'), RecursionSchemes.FULL);
        due("errorPosition()", x.errorPosition(), 99);
        due("clearText()", x.clearText(), 99);
        // All 99 of them count.
        Check.errorAt(times("0c;", 33), NONE);
        Check.errorAt(times("0c;", 32) + "0c?", 98);
        Check.errorAt(times("0c;", 32) + "0b1", 99);
    }

    private static void noItems() {
        Check.sentence("SETUP TEXT", "A setup is a sequence of items (none or more)");
        RecursionSchemes x = new RecursionSchemes();
        Check.none("errorPosition()", x.errorPosition());
        due("load()", x.load(), 0);
        Check.stateIs(x, NEW_STATE);
        Check.errorAt("S=c;", NONE);
        Check.errorAt("S=c;0c;", NONE);
        Check.errorAt("0c;S=c;1a22;H=Hyx;", NONE);
    }

    private static void itemsEndWithASemicolon() {
        Check.sentence("SETUP TEXT", "each ended by a semicolon");
        Check.errorAt("S=c", 3);
        Check.errorAt("0c", 2);
        Check.errorAt("0c;S=c", 6);
        Check.errorAt("S=cF=c;", 3);
        Check.errorAt("0c1c;", 2);
        Check.errorAt("0b11b1;", 3);
        Check.errorAt("0a111a11;", 4);
        Check.errorAt("0c:", 2);
    }

    private static void noOtherSeparators() {
        Check.sentence("SETUP TEXT", "without other separators");
        String setup = "S=Fc;0a12;";
        for (char separator : new char[] {' ', '\n', '\t', ',', 0, 255}) {
            for (int at = 0; at <= setup.length(); at++) {
                Check.errorAt(setup.substring(0, at) + separator + setup.substring(at), at);
            }
        }
        Check.errorAt(";", 0);
        Check.errorAt("S=c;;", 4);
        Check.errorAt("S=c;;0c;", 4);
        Check.errorAt("0c;;", 3);
    }

    private static void ruleBegins() {
        Check.sentence("SETUP TEXT", "A rule is the character of a nonterminal, the character = and a body that this"
            + " nonterminal may have.");
        for (int c = 0; c <= 255; c++) {
            boolean nonterminal = "SFGH".indexOf(c) >= 0;
            boolean state = "012".indexOf(c) >= 0;
            Check.errorAt((char) c + "=c;", nonterminal ? NONE : state ? 1 : 0);
            Check.errorAt("S" + (char) c + "c;", c == '=' ? NONE : 1);
        }
        Check.errorAt("S==c;", 2);
        Check.errorAt("S=;", 2);
        Check.errorAt("S=x;", 2);
        Check.errorAt("F=x;", NONE);
        Check.errorAt("F=y;", 2);
        Check.errorAt("G=x;", NONE);
        Check.errorAt("G=y;", 2);
        Check.errorAt("H=axy;", NONE);
    }

    private static void transitionsInTheText() {
        Check.sentence("SETUP TEXT", "A transition is a state (a digit from 0 to 2), the character of a"
            + " terminal, and as many states as the arity of the terminal says.");
        String[] terminals = {"a", "b", "c", "d"};
        for (int t = 0; t < 4; t++) {
            int arity = Math.max(2 - t, 0);
            String start = "1" + terminals[t];
            for (int given = 0; given <= 3; given++) {
                int want = given == arity ? NONE : 2 + Math.min(given, arity);
                Check.errorAt(start + times("2", given) + ";", want);
            }
        }
        for (int c = 0; c <= 255; c++) {
            Check.errorAt("0" + (char) c + "11;", c == 'a' ? NONE : c == 'b' ? 3 : c == 'c' || c == 'd' ? 2 : 1);
        }
    }

    private static void statesInTheText() {
        Check.sentence("SETUP TEXT", "a state (a digit from 0 to 2)");
        for (int c = 0; c <= 255; c++) {
            boolean state = c >= '0' && c <= '2';
            boolean nonterminal = "SFGH".indexOf(c) >= 0;
            Check.errorAt((char) c + "c;", state ? NONE : nonterminal ? 1 : 0);
            Check.errorAt("0b" + (char) c + ";", state ? NONE : 2);
            Check.errorAt("0a" + (char) c + "0;", state ? NONE : 2);
            Check.errorAt("0a0" + (char) c + ";", state ? NONE : 3);
        }
    }

    private static void lastOneCounts() {
        Check.sentence("SETUP TEXT", "If there are several rules for one nonterminal, or several"
            + " transitions for one state and terminal, the last one counts.");
        RecursionSchemes x = Check.loaded("S=d;F=x;S=bc;F=bx;S=bbd;");
        Check.stateIs(x, "S=bbd;F=bx;G=c;H=c;");
        x = Check.loaded("0a12;1a00;0a21;0b2;0b0;2c;2c;");
        Check.stateIs(x, NEW_STATE + "0a21;0b0;1a00;2c;");
        due("load()", x.load(), 4);
        // A later rule does not make up for a wrong one.
        Check.errorAt("S=x;S=c;", 2);
    }

    private static void readFromLeftToRight() {
        Check.sentence("SETUP TEXT", "The error position is the index of the first character that these rules do not"
            + " allow at its place");
        Check.errorAt("?", 0);
        Check.errorAt("S=c;?", 4);
        Check.errorAt("S=c;S?", 5);
        Check.errorAt("S=aF?;0?", 4);
        Check.errorAt("0?;S=x;", 1);
        Check.errorAt("S=Hcx;", 4);
        Check.errorAt("0a0?", 3);
    }

    private static void endInTheMiddle() {
        Check.sentence("SETUP TEXT", "if the text ends in the middle of an item, the error position is the length of"
            + " the text.");
        String setup = "H=aHxybc;0a12;1b0;2c;2d;S=" + times("b", 29) + "c;";
        for (int length = 0; length <= setup.length(); length++) {
            String text = setup.substring(0, length);
            Check.errorAt(text, text.isEmpty() || text.endsWith(";") ? NONE : length);
        }
    }

    private static void symbol31() {
        Check.sentence("SETUP TEXT", "In a body the 31st symbol is never allowed.");
        Check.errorAt("S=" + times("b", 29) + "c;", NONE);
        Check.errorAt("S=" + times("b", 30) + "c;", 32);
        Check.errorAt("S=" + times("b", 31) + "c;", 32);
        Check.errorAt("S=" + times("b", 30), 32);
        Check.errorAt("S=" + times("b", 30) + ";", 32);
        Check.errorAt("S=" + times("b", 29) + "x", 31);
        Check.errorAt("S=" + times("b", 29) + ";", 31);
        // The 30th symbol is allowed even where the term can't end with it.
        Check.errorAt("H=" + times("H", 29) + "Hxy;", 32);
        Check.errorAt("H=" + times("ax", 15) + "y;", 32);
        Check.errorAt("H=b" + times("ax", 14) + "y;", NONE);
        Check.errorAt("0c;G=" + times("G", 30) + "x;", 35);
    }

    private static void behindACompleteBody() {
        Check.sentence("SETUP TEXT", "Behind a complete body only the semicolon is allowed.");
        for (int c = 0; c <= 255; c++) {
            Check.errorAt("S=c" + (char) c, c == ';' ? NONE : 3);
            Check.errorAt("H=axy" + (char) c, c == ';' ? NONE : 5);
            Check.errorAt("S=" + times("b", 29) + "c" + (char) c, c == ';' ? NONE : 32);
        }
    }

    // ---- actions and undo

    private static void actions() {
        equalStates();
        fourteenStates();
        fifteenthAction();
        fifteenthOfEachKind();
        fullAgainAfterUndo();
        manyActions();
        textIsNotPartOfTheState();
        slotsAreNotPartOfTheState();
        errorsAreNoActions();
        whatIsNoAction();
        answersFollowEachChange();
    }

    private static void equalStates() {
        Check.sentence("ACTIONS AND UNDO", "Each successful call of one of them is an action, even if the state stays"
            + " equal.");
        String setup = "S=S;F=c;G=c;H=c;0b1;";
        RecursionSchemes x = Check.loaded(setup);
        Check.write(x, "S");
        due("setBody(0)", x.setBody(0), 1);
        due("setTransition(0, 1, 1, 0)", x.setTransition(0, 1, 1, 0), 1);
        due("inline(0, 0)", x.inline(0, 0), 1);
        due("exchange()", x.exchange(), 0);
        Check.stateIs(x, setup);
        for (int left = 3; left >= 0; left--) {
            due("undo()", x.undo(), left);
            Check.stateIs(x, setup);
        }
        Check.notPossible("undo()", x.undo());
    }

    /** The given number of actions; after the k-th of them the body of S is d behind k - 1 times b. */
    private static RecursionSchemes withActions(int count) {
        RecursionSchemes x = new RecursionSchemes();
        for (int k = 1; k <= count; k++) {
            act(x, k);
        }
        return x;
    }

    private static void act(RecursionSchemes x, int k) {
        Check.write(x, times("b", k - 1) + "d");
        due("setBody(0)", x.setBody(0), k);
    }

    /** Undoes all that is remembered; the state before it has the given body of S. */
    private static void undoesDownTo(RecursionSchemes x, int remembered, String oldest) {
        for (int left = remembered - 1; left >= 0; left--) {
            due("undo()", x.undo(), left);
        }
        Check.bodyIs(x, 0, oldest);
        Check.notPossible("undo() of nothing", x.undo());
        Check.bodyIs(x, 0, oldest);
    }

    private static void fourteenStates() {
        Check.sentence("ACTIONS AND UNDO", "The object remembers the state before each of the last 14 actions");
        undoesDownTo(withActions(0), 0, "c");
        undoesDownTo(withActions(1), 1, "c");
        undoesDownTo(withActions(13), 13, "c");
        undoesDownTo(withActions(14), 14, "c");
        RecursionSchemes x = withActions(14);
        for (int k = 13; k >= 1; k--) {
            due("undo()", x.undo(), k);
            Check.bodyIs(x, 0, times("b", k - 1) + "d");
        }
        due("undo()", x.undo(), 0);
        Check.bodyIs(x, 0, "c");
    }

    private static void fifteenthAction() {
        Check.sentence("ACTIONS AND UNDO", "when a fifteenth action happens, the oldest remembered state is"
            + " forgotten.");
        undoesDownTo(withActions(15), 14, "d");
        undoesDownTo(withActions(16), 14, "bd");
        undoesDownTo(withActions(20), 14, times("b", 5) + "d");
    }

    private static void fifteenthOfEachKind() {
        Check.sentence("ACTIONS AND UNDO, each kind of action", "when a fifteenth action happens");
        for (int kind = 0; kind < 5; kind++) {
            RecursionSchemes x = Check.loaded("S=Fc;F=bx;0b0;");
            due("exchange()", x.exchange(), 1);
            for (int i = 2; i <= 14; i++) {
                due("setTransition(1, 1, 1, 0)", x.setTransition(1, 1, 1, 0), i == 2 ? 0 : 1);
            }
            actionOfKind(x, kind);
            undoesDownTo(x, 14, "Gc");
            Check.stateIs(x, "S=Gc;F=c;G=bx;H=c;0b0;");
        }
    }

    private static void actionOfKind(RecursionSchemes x, int kind) {
        switch (kind) {
            case 0:
                Check.write(x, "bd");
                due("setBody(0)", x.setBody(0), 2);
                break;
            case 1:
                due("setTransition(2, 2, 0, 0)", x.setTransition(2, 2, 0, 0), 0);
                break;
            case 2:
                due("removeTransition(0, 1)", x.removeTransition(0, 1), 1);
                break;
            case 3:
                due("inline(0, 0)", x.inline(0, 0), 2);
                break;
            default:
                due("exchange()", x.exchange(), 1);
                break;
        }
    }

    private static void fullAgainAfterUndo() {
        Check.sentence("ACTIONS AND UNDO, some taken back", "the last 14 actions");
        // What is taken back makes room: the 14 states are full again, and none is forgotten.
        RecursionSchemes x = withActions(14);
        due("undo()", x.undo(), 13);
        act(x, 20);
        undoesDownTo(x, 14, "c");
        // The next action forgets the oldest one.
        x = withActions(14);
        due("undo()", x.undo(), 13);
        act(x, 20);
        act(x, 21);
        undoesDownTo(x, 14, "d");
        // All is taken back, and the object begins anew.
        x = withActions(15);
        undoesDownTo(x, 14, "d");
        act(x, 9);
        undoesDownTo(x, 1, "d");
    }

    private static void manyActions() {
        Check.sentence("ACTIONS AND UNDO, of many more", "the last 14 actions");
        for (int count : new int[] {27, 28, 29, 42, 43, 400}) {
            RecursionSchemes x = new RecursionSchemes();
            for (int i = 1; i <= count; i++) {
                due("setTransition", x.setTransition(0, 0, i % 3, i / 3 % 3), i == 1 ? 0 : 1);
            }
            for (int left = 13; left >= 0; left--) {
                due("undo()", x.undo(), left);
                int last = count - 14 + left;
                due("transition(0, 0, 1)", x.transition(0, 0, 1), last % 3);
                due("transition(0, 0, 2)", x.transition(0, 0, 2), last / 3 % 3);
            }
            Check.notPossible("undo()", x.undo());
        }
    }

    private static void textIsNotPartOfTheState() {
        Check.sentence("ACTIONS AND UNDO, the text", "The text and the save slots are not part of the state.");
        RecursionSchemes x = new RecursionSchemes();
        Check.write(x, "bd");
        due("setBody(0)", x.setBody(0), 2);
        due("save(0)", x.save(0), 0);
        due("append(59)", x.append(';'), 3);
        due("undo()", x.undo(), 0);
        due("restore(0)", x.restore(0), 0);
        due("errorPosition()", x.errorPosition(), 0);
        due("clearText()", x.clearText(), 3);
    }

    private static void slotsAreNotPartOfTheState() {
        Check.sentence("ACTIONS AND UNDO, the slots", "The text and the save slots are not part of the state.");
        RecursionSchemes x = Check.loaded("S=d;0d;");
        due("exchange()", x.exchange(), 0);
        due("removeTransition(0, 3)", x.removeTransition(0, 3), 0);
        due("save(1)", x.save(1), 0);
        due("undo()", x.undo(), 1);
        due("undo()", x.undo(), 0);
        Check.stateIs(x, "S=d;F=c;G=c;H=c;0d;");
        due("restore(1)", x.restore(1), 0);
        Check.stateIs(x, "S=d;F=c;G=c;H=c;");
        Check.notPossible("restore(0)", x.restore(0));
    }

    private static void errorsAreNoActions() {
        Check.sentence("ACTIONS AND UNDO", "A call that returns an error changes nothing and is not an action.");
        // The 14 states are full, so an action would forget the oldest one.
        RecursionSchemes x = withActions(14);
        x.append('?');
        Check.notPossible("setBody(0)", x.setBody(0));
        Check.noSuch("setBody(4)", x.setBody(4));
        Check.noSuch("setTransition(3, 0, 0, 0)", x.setTransition(3, 0, 0, 0));
        Check.bad("setTransition(0, 0, 3, 0)", x.setTransition(0, 0, 3, 0));
        Check.noSuch("removeTransition(0, 4)", x.removeTransition(0, 4));
        Check.notPossible("removeTransition(0, 0)", x.removeTransition(0, 0));
        Check.noSuch("inline(0, 14)", x.inline(0, 14));
        Check.notPossible("inline(0, 13)", x.inline(0, 13));
        Check.notPossible("load()", x.load());
        Check.notPossible("restore(0)", x.restore(0));
        Check.stateIs(x, "S=" + times("b", 13) + "d;F=c;G=c;H=c;");
        undoesDownTo(x, 14, "c");
    }

    private static void whatIsNoAction() {
        Check.sentence("ACTIONS AND UNDO", "undo, load and restore are not actions.");
        RecursionSchemes x = withActions(3);
        due("undo()", x.undo(), 2);
        due("undo()", x.undo(), 1);
        due("save(0)", x.save(0), 0);
        due("undo()", x.undo(), 0);
        Check.notPossible("undo()", x.undo());
        due("restore(0)", x.restore(0), 0);
        Check.notPossible("undo() of restore", x.undo());
        Check.bodyIs(x, 0, "d");
        Check.write(x, "S=bc;");
        due("load()", x.load(), 0);
        Check.notPossible("undo() of load", x.undo());
        Check.bodyIs(x, 0, "bc");
    }

    /** What tree, run and types say of the object, which has said it of the state before, too. */
    private static void answersAre(RecursionSchemes x, String change, int... want) {
        due("labelAt(1), " + change, x.labelAt(1), want[0]);
        due("expansionsAt(1), " + change, x.expansionsAt(1), want[1]);
        due("stateAt(11), " + change, x.stateAt(11), want[2]);
        due("accepts(), " + change, x.accepts(), want[3]);
        due("typingCount(1), " + change, x.typingCount(1), want[4]);
    }

    private static void answersFollowEachChange() {
        Check.sentence("ACTIONS AND UNDO", "The methods in the section \"actions\" change the state, which consists of the"
            + " four bodies and the transitions.");
        RecursionSchemes x = Check.loaded("S=aFcd;F=bx;G=x;0a00;0b0;0c;0d;");
        int[] first = {'b', 2, 0, 1, 4};
        answersAre(x, "load", first);
        Check.write(x, "d");
        due("setBody(1)", x.setBody(1), 1);
        answersAre(x, "setBody", 'd', 2, NONE, 1, 8);
        due("undo()", x.undo(), 0);
        answersAre(x, "undo", first);
        due("exchange()", x.exchange(), 1);
        answersAre(x, "exchange", 'b', 2, 0, 1, 12);
        due("undo()", x.undo(), 0);
        due("inline(0, 1)", x.inline(0, 1), 4);
        answersAre(x, "inline", 'b', 1, 0, 1, 4);
        due("undo()", x.undo(), 0);
        due("save(0)", x.save(0), 4);
        due("removeTransition(0, 1)", x.removeTransition(0, 1), 3);
        answersAre(x, "removeTransition", 'b', 2, NONE, 0, 0);
        due("setTransition(0, 1, 2, 0)", x.setTransition(0, 1, 2, 0), 0);
        answersAre(x, "setTransition", 'b', 2, 2, 0, 4);
        due("restore(0)", x.restore(0), 4);
        answersAre(x, "restore", first);
        Check.write(x, "S=bS;0b1;");
        due("load()", x.load(), 1);
        answersAre(x, "load", 'b', 2, NONE, 0, 0);
    }

    // ---- scripts

    private static void scripts() {
        numberOfCommands();
        highestGroupFirst();
        allGroups();
        onACopy();
        oneAfterAnother();
        firstFailure();
    }

    private static void numberOfCommands() {
        Check.sentence("SCRIPTS", "A script has 1 to 4 commands.");
        RecursionSchemes x = Check.loaded("S=S;");
        Check.bad("runScript(0, 0)", x.runScript(0, 0));
        Check.none("runScript(1, ..)", x.runScript(1, 3001L));
        Check.none("runScript(2, ..)", x.runScript(2, 30013001L));
        Check.none("runScript(3, ..)", x.runScript(3, 300130013001L));
        Check.none("runScript(4, ..)", x.runScript(4, 3001300130013001L));
        Check.bad("runScript(5, ..)", x.runScript(5, 3001300130013001L));
        Check.bad("runScript(-1, 3001)", x.runScript(-1, 3001L));
    }

    private static void highestGroupFirst() {
        Check.sentence("SCRIPTS", "the first command is the highest group of the number.");
        RecursionSchemes x = Check.loaded("S=S;");
        due("runScript(2, 30003001)", x.runScript(2, 30003001L), 0);
        due("runScript(2, 30013000)", x.runScript(2, 30013000L), 1);
        // A missing digit at the front is 0.
        due("runScript(2, 3001)", x.runScript(2, 3001L), 0);
        due("runScript(4, 300130013001)", x.runScript(4, 300130013001L), 0);
        due("runScript(1, 1)", x.runScript(1, 1L), 0);
    }

    /** All that the commands ask of a state; the numbers are found by hand. */
    private static void groupsAre(String setup, String there, int accepted, int[] typings, int[] nodes, int rounds) {
        RecursionSchemes x = null;
        for (int group = 0; group <= 9999; group++) {
            if (group % CALLS_OF_AN_OBJECT == 0) {
                x = Check.loaded(setup);
            }
            Check.sentence("SCRIPTS", COMMANDS[group / 1000]);
            int second = group / 100 % 10;
            int third = group / 10 % 10;
            int fourth = group % 10;
            int number = group % 100;
            boolean succeeds = switch (group / 1000) {
                case 1 -> fourth == 0 && there.contains(second + "/" + third);
                case 2 -> fourth == 0 && second <= 2 && third <= 2;
                case 3 -> group == 3000 + accepted;
                case 4 -> second <= 3 && typings[second] == number;
                case 5 -> second <= 6 && nodes[second] == number;
                case 6 -> group == 6000 + rounds;
                default -> false;
            };
            due("runScript(1, " + group + ") of " + setup, x.runScript(1, group), succeeds ? NONE : 0);
        }
    }

    private static void allGroups() {
        groupsAre("S=aSS;F=x;H=Hxy;0a00;2b1;1d;", "0/0 2/1 1/3", 1, new int[] {1, 12, 0, 192},
            new int[] {1, 2, 4, 8, 16, 32, 64}, 2);
        groupsAre("", "", 0, new int[] {0, 0, 0, 0}, new int[] {1, 0, 0, 0, 0, 0, 0}, 2);
        groupsAre("S=S;F=Fx;G=Gx;H=Hxy;2c;0d;2a22;", "2/2 0/3 2/0", 1, new int[] {3, 24, 24, 192},
            new int[] {1, 0, 0, 0, 0, 0, 0}, 1);
        groupsAre("S=abSc;F=c;G=bx;H=y;0c;2c;1b0;", "0/2 2/2 1/1", 0, new int[] {0, 16, 4, 96},
            new int[] {1, 2, 1, 2, 1, 2, 1}, 2);
        // In each of 12 rounds one nonterminal loses the typings of one state, the last state first.
        groupsAre("S=Fc;F=Gx;G=Hxx;H=bS;0b1;1b2;", "0/1 1/1", 0, new int[] {0, 0, 0, 0},
            new int[] {1, 1, 1, 1, 1, 1, 1}, 13);
    }

    private static void onACopy() {
        Check.sentence("SCRIPTS", "The commands run on a copy of the state");
        RecursionSchemes x = Check.loaded("S=bS;0b0;1c;");
        due("exchange()", x.exchange(), 0);
        due("save(0)", x.save(0), 2);
        Check.none("runScript(4, ..)", x.runScript(4, 1010112022202010L));
        Check.stateIs(x, "S=bS;F=c;G=c;H=c;0b0;1c;");
        due("accepts()", x.accepts(), 1);
        Check.none("stateAt of a node that is not there", x.stateAt(2));
        due("stateAt(1)", x.stateAt(1), 0);
        Check.none("runScript(4, ..), anew", x.runScript(4, 1010112022202010L));
        due("undo(), a script is no action", x.undo(), 0);
        due("restore(0)", x.restore(0), 2);
        Check.stateIs(x, "S=bS;F=c;G=c;H=c;0b0;1c;");
    }

    private static void oneAfterAnother() {
        Check.sentence("SCRIPTS", "one after another.");
        RecursionSchemes x = Check.loaded("S=bS;0b0;");
        due("runScript(2, 10101010), removed twice", x.runScript(2, 10101010L), 1);
        Check.none("runScript(3, ..), given again", x.runScript(3, 101020001010L));
        Check.none("runScript(4, ..)", x.runScript(4, 3001101030002000L));
        Check.none("runScript(4, ..)", x.runScript(4, 2010300021003001L));
        Check.none("runScript(4, ..)", x.runScript(4, 4001101040005601L));
        due("runScript(4, ..)", x.runScript(4, 4001101040015601L), 2);
    }

    private static void firstFailure() {
        Check.sentence("SCRIPTS", "The result of a script is the index, from 0, of the first command that fails, or"
            + " NONE if all succeed.");
        RecursionSchemes x = Check.loaded("S=S;");
        due("runScript(4, ..)", x.runScript(4, 3000300130013001L), 0);
        due("runScript(4, ..)", x.runScript(4, 3001300030013001L), 1);
        due("runScript(4, ..)", x.runScript(4, 3001300130003001L), 2);
        due("runScript(4, ..)", x.runScript(4, 3001300130013000L), 3);
        due("runScript(4, ..)", x.runScript(4, 3001300030003000L), 1);
        due("runScript(4, ..)", x.runScript(4, 9999999999999999L), 0);
        due("runScript(4, ..)", x.runScript(4, 3001300130013001L), NONE);
        due("runScript(1, 3000)", x.runScript(1, 3000L), 0);
    }

    // ---- errors

    private static void errors() {
        firstErrorListed();
        noSuchIndex();
        badPaths();
    }

    private static void firstErrorListed() {
        Check.sentence("ERRORS", "If several errors apply to a call, the one that is listed first"
            + " in the description of the method is returned.");
        RecursionSchemes x = Check.loaded("S=" + times("b", 29) + "S;");
        Check.write(x, times("?", 99));
        Check.bad("append(256) to a full text", x.append(256));
        Check.bad("append(-1) to a full text", x.append(-1));
        Check.noSuch("setBody(4) of a wrong text", x.setBody(4));
        Check.noSuch("transition(3, 0, 3)", x.transition(3, 0, 3));
        Check.noSuch("transition(0, 4, 0)", x.transition(0, 4, 0));
        Check.bad("transition(0, 1, 2), and there is none", x.transition(0, 1, 2));
        Check.bad("transition(0, 2, 1), and there is none", x.transition(0, 2, 1));
        Check.noSuch("setTransition(3, 0, 3, 0)", x.setTransition(3, 0, 3, 0));
        Check.noSuch("setTransition(0, -1, 0, 3)", x.setTransition(0, -1, 0, 3));
        Check.noSuch("removeTransition(3, 0), and there is none", x.removeTransition(3, 0));
        Check.noSuch("inline(4, 0)", x.inline(4, 0));
        Check.noSuch("inline(0, 30)", x.inline(0, 30));
        Check.notPossible("inline(0, 28)", x.inline(0, 28));
        due("inline(0, 29)", x.inline(0, 29), RecursionSchemes.FULL);
        Check.noSuch("isValid(4, 0, 8, 0)", x.isValid(4, 0, 8, 0));
        Check.noSuch("isValid(0, 3, 1, 1)", x.isValid(0, 3, 1, 1));
        Check.noSuch("demand(4, 0, 3)", x.demand(4, 0, 3));
        Check.noSuch("demand(0, 3, 1)", x.demand(0, 3, 1));
        Check.bad("demand(1, 0, 2), and there is no typing", x.demand(1, 0, 2));
        Check.none("demand(1, 0, 1)", x.demand(1, 0, 1));
        Check.noSuch("restore(2), and no slot is filled", x.restore(2));
        Check.bad("labelAt(222223), and there is no node", x.labelAt(222223));
        Check.bad("wrongBranch(7), and there is none", Check.loaded("0c;").wrongBranch(7));
    }

    private static void noSuchIndex() {
        Check.sentence("ERRORS", "NO_SUCH_INDEX without a condition means that an argument is not a"
            + " nonterminal (0 to 3, for n), not a terminal (0 to 3, for t), not a state (0 to 2, for q), or not an"
            + " index that exists.");
        RecursionSchemes x = Check.loaded("S=bc;0b0;");
        int[] outside = {-1, 4, 5, Integer.MIN_VALUE, Integer.MAX_VALUE, -4, 256, 1 << 30};
        for (int value : outside) {
            Check.noSuch("bodyLength(" + value + ")", x.bodyLength(value));
            Check.noSuch("bodySymbol(" + value + ", 0)", x.bodySymbol(value, 0));
            Check.noSuch("bodySymbol(0, " + value + ")", x.bodySymbol(0, value));
            Check.noSuch("hasTransition(0, " + value + ")", x.hasTransition(0, value));
            Check.noSuch("hasTransition(" + value + ", 0)", x.hasTransition(value, 0));
            Check.noSuch("setBody(" + value + ")", x.setBody(value));
            Check.noSuch("removeTransition(0, " + value + ")", x.removeTransition(0, value));
            Check.noSuch("removeTransition(" + value + ", 1)", x.removeTransition(value, 1));
            Check.noSuch("inline(" + value + ", 0)", x.inline(value, 0));
            Check.noSuch("inline(0, " + value + ")", x.inline(0, value));
            Check.noSuch("typingCount(" + value + ")", x.typingCount(value));
        }
        Check.noSuch("hasTransition(3, 0)", x.hasTransition(3, 0));
        Check.noSuch("removeTransition(3, 1)", x.removeTransition(3, 1));
        due("hasTransition(2, 3)", x.hasTransition(2, 3), 0);
        due("bodyLength(3)", x.bodyLength(3), 1);
        due("typingCount(3)", x.typingCount(3), 0);
    }

    private static void badPaths() {
        Check.sentence("ERRORS", "BAD_VALUE for a path means that it is negative, has more than 6 digits, or contains"
            + " a digit other than 1 and 2 (the path 0 is allowed).");
        // The tree is full, so there is a node at each path that is not bad.
        RecursionSchemes x = null;
        int calls = 0;
        for (int code = 0; code < 1 << 14; code++) {
            int path = 0;
            for (int place = 12; place >= 0; place -= 2) {
                path = 10 * path + (code >> place & 3);
            }
            if (calls++ % 160 == 0) {
                x = Check.loaded("S=aSS;0a00;");
            }
            String digits = "" + path;
            boolean bad = path != 0 && (digits.length() > 6 || digits.contains("0") || digits.contains("3"));
            pathIs(x, path, bad);
        }
        for (int digit = 3; digit <= 9; digit++) {
            x = Check.loaded("S=aSS;0a00;");
            for (int unit = 1; unit <= 100000; unit *= 10) {
                pathIs(x, 111111 + (digit - 1) * unit, true);
            }
        }
        int[] far = {-1, -2, -11, -12, -111111, 1111111, 2222222, 11111111, 1111111111, 2122222222,
            Integer.MIN_VALUE, Integer.MAX_VALUE, 1000000, 999999};
        x = Check.loaded("S=aSS;0a00;");
        for (int path : far) {
            pathIs(x, path, true);
        }
    }

    private static void pathIs(RecursionSchemes x, int path, boolean bad) {
        int expansions = path == 0 ? 1 : 1 + ("" + path).length();
        due("labelAt(" + path + ")", x.labelAt(path), bad ? RecursionSchemes.BAD_VALUE : 'a');
        due("expansionsAt(" + path + ")", x.expansionsAt(path), bad ? RecursionSchemes.BAD_VALUE : expansions);
        due("stateAt(" + path + ")", x.stateAt(path), bad ? RecursionSchemes.BAD_VALUE : 0);
    }

    // ---- the calls of an object

    private static void calls() {
        Check.sentence("What it is", "An object is used for at most 512 calls after it has been made");
        // Ten calls a turn, and the last two: the 512th call still answers what is due.
        RecursionSchemes x = new RecursionSchemes();
        for (int turn = 0; turn < 51; turn++) {
            due("append", x.append('b'), 1);
            due("append", x.append('S'), 2);
            due("setBody(0)", x.setBody(0), 2);
            due("setTransition", x.setTransition(0, 1, 0, 0), turn == 0 ? 0 : 1);
            due("accepts()", x.accepts(), 1);
            due("labelAt(111111)", x.labelAt(111111), 'b');
            due("removeTransition", x.removeTransition(0, 1), 0);
            due("wrongBranch(6)", x.wrongBranch(6), 0);
            due("undo()", x.undo(), Math.min(2 * turn + 2, 13));
            due("clearText()", x.clearText(), 2);
        }
        due("nodesAtDepth(6)", x.nodesAtDepth(6), 1);
        due("undo()", x.undo(), 12);
    }
}
