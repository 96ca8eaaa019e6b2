/** The edges that the sections of the thirty promises name: a test for each promise's sentence. */
public final class PromiseEdgesTest {
    private static final int BAD_VALUE = RecursionSchemes.BAD_VALUE;
    private static final int NO_SUCH_INDEX = RecursionSchemes.NO_SUCH_INDEX;
    private static final int FULL = RecursionSchemes.FULL;
    private static final int NONE = RecursionSchemes.NONE;
    private static final int UNDEFINED = RecursionSchemes.UNDEFINED;
    private static final int[] ARITIES_OF_TERMINALS = {2, 1, 0, 0};
    private static final int[] ARITIES_OF_NONTERMINALS = {0, 1, 1, 2};

    private static final String NEW_STATE = "S=c;F=c;G=c;H=c;";
    private static final String ALL_TRANSITIONS = "0a12;0b1;0c;0d;1a20;1b2;1c;1d;2a01;2b0;2c;2d;";

    private PromiseEdgesTest() {
    }

    public static void main(String[] args) {
        setupText();
        readingTheState();
        actions();
        treeAndRun();
        types();
        scriptsAndDescents();
        slots();
        Check.finish();
    }

    private static void due(String call, long got, long want) {
        Check.due(call, got, want);
    }

    private static String times(String symbols, int count) {
        return symbols.repeat(count);
    }

    // ---- promises 1 to 5

    private static void setupText() {
        newObject();
        appendCodes();
        appendToAFullText();
        clearEmptyAndFull();
        errorPositionOfCompleteSetups();
        loadReplacesTheWholeState();
        loadForgets();
        loadKeepsTheText();
        loadCountsTransitions();
        loadOfAWrongText();
    }

    private static void newObject() {
        Check.sentence("promise 1", "Creates a scheme whose bodies are all c, and an automaton without transitions.");
        RecursionSchemes x = new RecursionSchemes();
        Check.stateIs(x, NEW_STATE);
        Check.notPossible("undo()", x.undo());
        Check.notPossible("restore(0)", x.restore(0));
        Check.notPossible("restore(1)", x.restore(1));
        due("clearText()", x.clearText(), 0);
    }

    private static void appendCodes() {
        Check.sentence("promise 2", "character code, 0 to 255");
        RecursionSchemes x = new RecursionSchemes();
        Check.bad("append(-1)", x.append(-1));
        due("append(0)", x.append(0), 1);
        due("append(1)", x.append(1), 2);
        due("append(254)", x.append(254), 3);
        due("append(255)", x.append(255), 4);
        Check.bad("append(256)", x.append(256));
        Check.bad("append(256 + 83)", x.append(256 + 'S'));
        Check.bad("append(MIN)", x.append(Integer.MIN_VALUE));
        Check.bad("append(MAX)", x.append(Integer.MAX_VALUE));
        due("append(83), no refused one counts", x.append('S'), 5);
    }

    private static void appendToAFullText() {
        Check.sentence("promise 2", "FULL if the text already has 99 characters.");
        RecursionSchemes x = new RecursionSchemes();
        for (int length = 1; length <= 99; length++) {
            due("append", x.append(length % 3 == 1 ? '0' : length % 3 == 2 ? 'c' : ';'), length);
        }
        due("append, once more", x.append('?'), FULL);
        due("append, twice more", x.append('?'), FULL);
        Check.none("errorPosition()", x.errorPosition());
        due("load()", x.load(), 1);
        due("clearText()", x.clearText(), 99);
        due("append to an empty text", x.append('S'), 1);
    }

    private static void clearEmptyAndFull() {
        Check.sentence("promise 3", "Returns the previous length of the text.");
        RecursionSchemes x = new RecursionSchemes();
        due("clearText() of nothing", x.clearText(), 0);
        due("clearText() of nothing", x.clearText(), 0);
        due("append", x.append('S'), 1);
        due("clearText() of one", x.clearText(), 1);
        Check.none("errorPosition()", x.errorPosition());
        Check.write(x, times("?", 99));
        due("clearText() of 99", x.clearText(), 99);
        due("clearText() of nothing", x.clearText(), 0);
    }

    private static void errorPositionOfCompleteSetups() {
        Check.sentence("promise 4", "Returns the error position of the text, or NONE if the text is a complete setup.");
        Check.errorAt("", NONE);
        Check.errorAt("S", 1);
        Check.errorAt("?", 0);
        Check.errorAt(times("0c;", 33), NONE);
        Check.errorAt(times("0c;", 32) + "??;", 96);
        Check.errorAt(times("0c;", 32) + "0cc", 98);
        Check.errorAt(times("0c;", 32) + "0a1", 99);
        RecursionSchemes x = Check.loaded("S=d;0d;");
        Check.write(x, "S=bc;1d;?");
        due("errorPosition()", x.errorPosition(), 8);
        Check.stateIs(x, "S=d;F=c;G=c;H=c;0d;");
        due("clearText()", x.clearText(), 9);
    }

    private static void loadReplacesTheWholeState() {
        Check.sentence("promise 5", "Replaces the state by that of a new object and then by the items of the text in"
            + " their order.");
        RecursionSchemes x = Check.loaded("S=Fc;F=bx;G=x;H=y;0b1;2d;");
        Check.write(x, "G=bx;1c;");
        due("load()", x.load(), 1);
        Check.stateIs(x, "S=c;F=c;G=bx;H=c;1c;");
        Check.write(x, "");
        due("load() of an empty text", x.load(), 0);
        Check.stateIs(x, NEW_STATE);
        Check.write(x, "F=bx;0b1;F=x;0b2;");
        due("load()", x.load(), 1);
        Check.stateIs(x, "S=c;F=x;G=c;H=c;0b2;");
    }

    private static void loadForgets() {
        Check.sentence("promise 5", "Forgets all remembered states and empties both save slots.");
        RecursionSchemes x = Check.loaded("S=d;");
        for (int i = 0; i < 14; i++) {
            due("exchange()", x.exchange(), 0);
        }
        due("save(0)", x.save(0), 0);
        due("save(1)", x.save(1), 0);
        due("load()", x.load(), 0);
        Check.notPossible("undo()", x.undo());
        Check.notPossible("restore(0)", x.restore(0));
        Check.notPossible("restore(1)", x.restore(1));
        due("exchange()", x.exchange(), 0);
        due("undo()", x.undo(), 0);
        Check.notPossible("undo()", x.undo());
    }

    private static void loadKeepsTheText() {
        Check.sentence("promise 5", "Keeps the text.");
        RecursionSchemes x = Check.loaded("S=d;");
        due("load() again", x.load(), 0);
        due("append", x.append('0'), 5);
        due("errorPosition()", x.errorPosition(), 5);
        due("clearText()", x.clearText(), 5);
    }

    private static void loadCountsTransitions() {
        Check.sentence("promise 5", "Returns the number of transitions of the automaton");
        RecursionSchemes x = Check.loaded(ALL_TRANSITIONS);
        due("load() of all", x.load(), 12);
        Check.stateIs(x, NEW_STATE + ALL_TRANSITIONS);
        Check.write(x, "S=d;");
        due("load() of none", x.load(), 0);
        Check.write(x, "2d;2d;2d;");
        due("load() of one, three times", x.load(), 1);
    }

    private static void loadOfAWrongText() {
        Check.sentence("promise 5", "NOT_POSSIBLE if the text is not a complete setup.");
        RecursionSchemes x = Check.loaded("S=d;0d;");
        due("exchange()", x.exchange(), 0);
        due("save(0)", x.save(0), 1);
        for (String text : new String[] {"S=bc;0c", "S", "S=x;", "0c;?", times("0c;", 32) + "0a1"}) {
            Check.write(x, text);
            Check.notPossible("load() of " + text, x.load());
            Check.stateIs(x, "S=d;F=c;G=c;H=c;0d;");
        }
        due("undo()", x.undo(), 0);
        due("restore(0)", x.restore(0), 1);
        due("clearText()", x.clearText(), 99);
    }

    // ---- promises 6 to 10

    private static void readingTheState() {
        bodyLengths();
        bodySymbols();
        childrenOfTransitions();
        noChildrenOfCAndD();
        absentTransitions();
        transitionsThere();
        reachableAlone();
    }

    private static void bodyLengths() {
        Check.sentence("promise 6", "Returns the number of symbols of its body; NO_SUCH_INDEX.");
        RecursionSchemes x = Check.loaded("S=" + times("b", 29) + "c;H=" + times("ax", 14) + "by;");
        Check.noSuch("bodyLength(-1)", x.bodyLength(-1));
        due("bodyLength(0)", x.bodyLength(0), 30);
        due("bodyLength(1)", x.bodyLength(1), 1);
        due("bodyLength(2)", x.bodyLength(2), 1);
        due("bodyLength(3)", x.bodyLength(3), 30);
        Check.noSuch("bodyLength(4)", x.bodyLength(4));
    }

    private static void bodySymbols() {
        Check.sentence("promise 7", "Returns the character code of the symbol; NO_SUCH_INDEX.");
        RecursionSchemes x = Check.loaded("S=" + times("b", 28) + "Gd;H=abcHdaSHFxGy;");
        Check.noSuch("bodySymbol(0, -1)", x.bodySymbol(0, -1));
        due("bodySymbol(0, 0)", x.bodySymbol(0, 0), 'b');
        due("bodySymbol(0, 28)", x.bodySymbol(0, 28), 'G');
        due("bodySymbol(0, 29)", x.bodySymbol(0, 29), 'd');
        Check.noSuch("bodySymbol(0, 30)", x.bodySymbol(0, 30));
        due("bodySymbol(1, 0)", x.bodySymbol(1, 0), 'c');
        Check.noSuch("bodySymbol(1, 1)", x.bodySymbol(1, 1));
        Check.noSuch("bodySymbol(-1, 0)", x.bodySymbol(-1, 0));
        Check.noSuch("bodySymbol(4, 0)", x.bodySymbol(4, 0));
        due("bodySymbol(3, 11)", x.bodySymbol(3, 11), 'y');
        Check.noSuch("bodySymbol(3, 12)", x.bodySymbol(3, 12));
        Check.bodyIs(x, 3, "abcHdaSHFxGy");
        // The symbols of a longer body that was there before are gone.
        Check.write(x, "bd");
        due("setBody(3)", x.setBody(3), 2);
        due("bodySymbol(3, 1)", x.bodySymbol(3, 1), 'd');
        Check.noSuch("bodySymbol(3, 2)", x.bodySymbol(3, 2));
    }

    private static void childrenOfTransitions() {
        Check.sentence("promise 8", "BAD_VALUE if child is greater than the arity of t or less than 1");
        RecursionSchemes x = Check.loaded(ALL_TRANSITIONS);
        Check.bad("transition(0, 0, 0)", x.transition(0, 0, 0));
        due("transition(0, 0, 1)", x.transition(0, 0, 1), 1);
        due("transition(0, 0, 2)", x.transition(0, 0, 2), 2);
        Check.bad("transition(0, 0, 3)", x.transition(0, 0, 3));
        Check.bad("transition(2, 1, 0)", x.transition(2, 1, 0));
        due("transition(2, 1, 1)", x.transition(2, 1, 1), 0);
        Check.bad("transition(2, 1, 2)", x.transition(2, 1, 2));
        Check.bad("transition(0, 0, -1)", x.transition(0, 0, -1));
        Check.bad("transition(0, 0, MIN)", x.transition(0, 0, Integer.MIN_VALUE));
        Check.bad("transition(0, 0, MAX)", x.transition(0, 0, Integer.MAX_VALUE));
    }

    private static void noChildrenOfCAndD() {
        Check.sentence("promise 8", "(so for c and d always)");
        RecursionSchemes with = Check.loaded(ALL_TRANSITIONS);
        RecursionSchemes without = new RecursionSchemes();
        for (int t = 2; t <= 3; t++) {
            for (int child = -1; child <= 3; child++) {
                Check.bad("transition(0, " + t + ", " + child + ")", with.transition(0, t, child));
                Check.bad("transition(2, " + t + ", " + child + ")", without.transition(2, t, child));
            }
        }
    }

    private static void absentTransitions() {
        Check.sentence("promise 8", "NO_SUCH_INDEX if q or t does not exist .. NONE if there is no transition.");
        RecursionSchemes x = Check.loaded("0a00;2b0;");
        due("transition(0, 0, 1), a state 0", x.transition(0, 0, 1), 0);
        due("transition(0, 0, 2)", x.transition(0, 0, 2), 0);
        due("transition(2, 1, 1)", x.transition(2, 1, 1), 0);
        Check.none("transition(1, 0, 1)", x.transition(1, 0, 1));
        Check.none("transition(2, 0, 2)", x.transition(2, 0, 2));
        Check.none("transition(0, 1, 1)", x.transition(0, 1, 1));
        Check.noSuch("transition(-1, 0, 1)", x.transition(-1, 0, 1));
        Check.noSuch("transition(3, 0, 1)", x.transition(3, 0, 1));
        Check.noSuch("transition(0, -1, 1)", x.transition(0, -1, 1));
        Check.noSuch("transition(0, 4, 1)", x.transition(0, 4, 1));
        due("removeTransition(0, 0)", x.removeTransition(0, 0), 1);
        Check.none("transition(0, 0, 1), removed", x.transition(0, 0, 1));
    }

    private static void transitionsThere() {
        Check.sentence("promise 9", "Returns 1 if there is a transition of q and t, otherwise 0; NO_SUCH_INDEX.");
        RecursionSchemes full = Check.loaded(ALL_TRANSITIONS);
        RecursionSchemes empty = new RecursionSchemes();
        for (int q = -1; q <= 3; q++) {
            for (int t = -1; t <= 4; t++) {
                boolean exists = q >= 0 && q <= 2 && t >= 0 && t <= 3;
                String call = "hasTransition(" + q + ", " + t + ")";
                due(call, full.hasTransition(q, t), exists ? 1 : NO_SUCH_INDEX);
                due(call, empty.hasTransition(q, t), exists ? 0 : NO_SUCH_INDEX);
            }
        }
    }

    private static void reachableAlone() {
        Check.sentence("promise 10", "the nonterminals that can be reached from S (S itself, and those in bodies of"
            + " reached ones)");
        due("S, though no body has it", new RecursionSchemes().reachable(), 1);
        due("S alone", Check.loaded("S=aSd;").reachable(), 1);
        due("others reach S, but not S them", Check.loaded("F=HSx;G=Fx;H=Gx;").reachable(), 1);
        due("all at once", Check.loaded("S=HFcGd;").reachable(), 15);
        due("all, one by one, upwards", Check.loaded("S=Fc;F=Gx;G=Hxx;").reachable(), 15);
        due("all, one by one, downwards", Check.loaded("S=Hcc;H=Gx;G=Fx;").reachable(), 15);
        due("one in an argument that is dropped", Check.loaded("S=FGc;F=d;").reachable(), 7);
        due("one that never comes to be expanded", Check.loaded("S=FHcc;F=Fx;").reachable(), 11);
    }

    // ---- promises 11 to 16

    private static void actions() {
        setBodyOfEachNonterminal();
        setBodyTakesTheWholeText();
        statesOfSetTransition();
        setAndReplace();
        removeToTheLast();
        removeWhatIsNotThere();
        indexOfInline();
        inlineOfOtherSymbols();
        inlineToThirty();
        inlineIntoItself();
        exchangeOfNothing();
        exchangeOfAllThereCanBe();
        undoCounts();
    }

    private static void setBodyOfEachNonterminal() {
        Check.sentence("promise 11", "NOT_POSSIBLE if the whole text is not a body that this nonterminal may have.");
        String[] texts = {"d", "x", "y", "axy", times("b", 29) + "d", times("b", 30) + "d", ""};
        String allowed = "1111/0111/0001/0001/1111/0000/0000";
        for (int i = 0; i < texts.length; i++) {
            RecursionSchemes x = new RecursionSchemes();
            Check.write(x, texts[i]);
            for (int n = 0; n < 4; n++) {
                boolean may = allowed.charAt(5 * i + n) == '1';
                int want = may ? texts[i].length() : RecursionSchemes.NOT_POSSIBLE;
                due("setBody(" + n + ") of " + texts[i], x.setBody(n), want);
                Check.bodyIs(x, n, may ? texts[i] : "c");
            }
            Check.noSuch("setBody(-1)", x.setBody(-1));
            Check.noSuch("setBody(4)", x.setBody(4));
            due("clearText(), the text is kept", x.clearText(), texts[i].length());
        }
    }

    private static void setBodyTakesTheWholeText() {
        Check.sentence("promise 11", "the whole text");
        RecursionSchemes x = new RecursionSchemes();
        for (String text : new String[] {"dd", "d;", ";d", " d", "d ", "S=d;", "S=d", "b", "adb", "?", "d" + (char) 0}) {
            Check.write(x, text);
            Check.notPossible("setBody(0) of " + text, x.setBody(0));
        }
        Check.stateIs(x, NEW_STATE);
        Check.notPossible("undo()", x.undo());
    }

    private static void statesOfSetTransition() {
        Check.sentence("promise 12", "state of child 1; it must be 0 if the arity of t is 0"
            + " .. state of child 2; it must be 0 if the arity of t is less than 2");
        for (int t = 0; t < 4; t++) {
            RecursionSchemes x = new RecursionSchemes();
            int set = 0;
            for (int q1 = -1; q1 <= 3; q1++) {
                for (int q2 = -1; q2 <= 3; q2++) {
                    boolean first = ARITIES_OF_TERMINALS[t] >= 1 ? q1 >= 0 && q1 <= 2 : q1 == 0;
                    boolean second = ARITIES_OF_TERMINALS[t] >= 2 ? q2 >= 0 && q2 <= 2 : q2 == 0;
                    int want = first && second ? Math.min(set, 1) : BAD_VALUE;
                    String call = "setTransition(1, " + t + ", " + q1 + ", " + q2 + ")";
                    due(call, x.setTransition(1, t, q1, q2), want);
                    set += first && second ? 1 : 0;
                }
            }
            due("the good ones of " + t, set, t == 0 ? 9 : t == 1 ? 3 : 1);
            due("undo(), only they are actions", x.undo(), set - 1);
        }
    }

    private static void setAndReplace() {
        Check.sentence("promise 12", "Returns 1 if there was a transition of q and t before, otherwise 0; NO_SUCH_INDEX"
            + " if q or t does not exist");
        RecursionSchemes x = new RecursionSchemes();
        for (int q = -1; q <= 3; q++) {
            for (int t = -1; t <= 4; t++) {
                boolean exists = q >= 0 && q <= 2 && t >= 0 && t <= 3;
                String call = "setTransition(" + q + ", " + t + ", 0, 0)";
                due(call, x.setTransition(q, t, 0, 0), exists ? 0 : NO_SUCH_INDEX);
                due(call + ", again", x.setTransition(q, t, 0, 0), exists ? 1 : NO_SUCH_INDEX);
            }
        }
        Check.stateIs(x, NEW_STATE + "0a00;0b0;0c;0d;1a00;1b0;1c;1d;2a00;2b0;2c;2d;");
        due("setTransition(2, 0, 2, 1)", x.setTransition(2, 0, 2, 1), 1);
        due("transition(2, 0, 1)", x.transition(2, 0, 1), 2);
        due("transition(2, 0, 2)", x.transition(2, 0, 2), 1);
    }

    private static void removeToTheLast() {
        Check.sentence("promise 13", "Returns the number of transitions that are left");
        RecursionSchemes x = Check.loaded(ALL_TRANSITIONS);
        int left = 12;
        for (int q = 0; q < 3; q++) {
            for (int t = 0; t < 4; t++) {
                left--;
                due("removeTransition(" + q + ", " + t + ")", x.removeTransition(q, t), left);
                due("hasTransition(" + q + ", " + t + ")", x.hasTransition(q, t), 0);
            }
        }
        due("the last one", left, 0);
        Check.stateIs(x, NEW_STATE);
        due("undo()", x.undo(), 11);
        Check.stateIs(x, NEW_STATE + "2d;");
    }

    private static void removeWhatIsNotThere() {
        Check.sentence("promise 13", "NO_SUCH_INDEX; NOT_POSSIBLE if there is no transition of q and t.");
        RecursionSchemes x = Check.loaded("1b1;");
        for (int q = -1; q <= 3; q++) {
            for (int t = -1; t <= 4; t++) {
                boolean exists = q >= 0 && q <= 2 && t >= 0 && t <= 3;
                if (q != 1 || t != 1) {
                    due("removeTransition(" + q + ", " + t + ")", x.removeTransition(q, t),
                        exists ? RecursionSchemes.NOT_POSSIBLE : NO_SUCH_INDEX);
                }
            }
        }
        Check.notPossible("undo()", x.undo());
        due("removeTransition(1, 1)", x.removeTransition(1, 1), 0);
        Check.notPossible("removeTransition(1, 1), again", x.removeTransition(1, 1));
        due("undo()", x.undo(), 0);
    }

    private static void indexOfInline() {
        Check.sentence("promise 14", "NO_SUCH_INDEX");
        RecursionSchemes x = Check.loaded("S=Fd;F=" + times("b", 28) + "Gx;G=x;");
        Check.noSuch("inline(-1, 0)", x.inline(-1, 0));
        Check.noSuch("inline(4, 0)", x.inline(4, 0));
        Check.noSuch("inline(0, -1)", x.inline(0, -1));
        Check.noSuch("inline(0, 2)", x.inline(0, 2));
        Check.noSuch("inline(1, 30)", x.inline(1, 30));
        Check.noSuch("inline(0, MIN)", x.inline(0, Integer.MIN_VALUE));
        Check.noSuch("inline(0, MAX)", x.inline(0, Integer.MAX_VALUE));
        due("inline(0, 0), the first symbol", x.inline(0, 0), 30);
        due("inline(0, 28)", x.inline(0, 28), 29);
        x = Check.loaded("S=" + times("b", 29) + "S;F=bS;");
        due("inline(0, 29), the last symbol", x.inline(0, 29), FULL);
        x = Check.loaded("S=c;F=bS;");
        due("inline(1, 1), the last symbol", x.inline(1, 1), 2);
        Check.bodyIs(x, 1, "bc");
    }

    private static void inlineOfOtherSymbols() {
        Check.sentence("promise 14", "NOT_POSSIBLE if symbol i is not a nonterminal");
        String body = "abcHdaSHFxGy";
        for (int i = 0; i < body.length(); i++) {
            RecursionSchemes x = Check.loaded("H=" + body + ";F=x;G=x;");
            boolean nonterminal = "SFGH".indexOf(body.charAt(i)) >= 0;
            int answer = x.inline(3, i);
            if (nonterminal) {
                Check.holds("inline(3, " + i + ") answered " + answer, answer > 0);
                due("undo()", x.undo(), 0);
            } else {
                Check.notPossible("inline(3, " + i + ")", answer);
                Check.notPossible("undo()", x.undo());
            }
            Check.bodyIs(x, 3, body);
        }
    }

    private static void inlineToThirty() {
        Check.sentence("promise 14", "FULL if the body would have more than 30 symbols.");
        // Twice the argument and three symbols more.
        String argument = times("b", 12) + "d";
        RecursionSchemes x = Check.loaded("S=baF" + argument + "d;F=axx;");
        due("inline to 30", x.inline(0, 2), 30);
        Check.bodyIs(x, 0, "baa" + argument + argument + "d");
        x = Check.loaded("S=bbaF" + argument + "d;F=axx;");
        due("inline to 31", x.inline(0, 3), FULL);
        Check.bodyIs(x, 0, "bbaF" + argument + "d");
        x = Check.loaded("S=baF" + argument + "bd;F=axx;");
        due("inline to 31 by what is behind", x.inline(0, 2), FULL);
        x = Check.loaded("S=baFb" + argument + "d;F=axx;");
        due("inline to 32 by the argument", x.inline(0, 2), FULL);
        x = Check.loaded("S=baF" + argument + "d;F=baxx;");
        due("inline to 31 by the other body", x.inline(0, 2), FULL);
        Check.notPossible("undo()", x.undo());
        // A full body may become shorter, or stay as it is.
        x = Check.loaded("S=" + times("b", 28) + "Fd;F=x;");
        due("inline of a full body", x.inline(0, 28), 29);
        x = Check.loaded("S=" + times("b", 28) + "Fd;F=bx;");
        due("inline of a full body", x.inline(0, 28), 30);
        x = Check.loaded("S=" + times("b", 28) + "Fd;F=bbx;");
        due("inline of a full body", x.inline(0, 28), FULL);
        x = Check.loaded("S=F" + times("b", 28) + "d;F=c;");
        due("inline to one symbol", x.inline(0, 0), 1);
    }

    private static void inlineIntoItself() {
        Check.sentence("promise 14", "(If symbol i is n itself, the body is put into itself once.)");
        RecursionSchemes x = Check.loaded("S=aSS;F=bFbx;H=aHyxx;");
        due("inline(0, 1)", x.inline(0, 1), 5);
        Check.bodyIs(x, 0, "aaSSS");
        due("inline(0, 4)", x.inline(0, 4), 9);
        Check.bodyIs(x, 0, "aaSSaaSSS");
        due("inline(1, 1)", x.inline(1, 1), 6);
        Check.bodyIs(x, 1, "bbFbbx");
        due("inline(3, 1)", x.inline(3, 1), 7);
        Check.bodyIs(x, 3, "aaHxyyx");
        // 15 symbols and their own last one: 29; 16 would make 31.
        x = Check.loaded("S=" + times("b", 14) + "S;");
        due("inline to 29", x.inline(0, 14), 29);
        x = Check.loaded("S=" + times("b", 15) + "S;");
        due("inline to 31", x.inline(0, 15), FULL);
        x = Check.loaded("S=a" + times("b", 14) + "S" + "d;");
        due("inline to 33", x.inline(0, 15), FULL);
        x = Check.loaded("F=F" + times("b", 14) + "x;");
        due("inline to 30", x.inline(1, 0), 30);
        x = Check.loaded("F=bF" + times("b", 14) + "x;");
        due("inline to 32", x.inline(1, 1), FULL);
    }

    private static void exchangeOfNothing() {
        Check.sentence("promise 15", "Returns how many symbols F and G occur in all bodies together.");
        RecursionSchemes x = Check.loaded("S=Hcd;F=bx;G=x;H=aSx;");
        due("exchange() of none", x.exchange(), 0);
        Check.stateIs(x, "S=Hcd;F=x;G=bx;H=aSx;");
        x = Check.loaded("S=Fc;");
        due("exchange() of one F", x.exchange(), 1);
        due("exchange() of one G", x.exchange(), 1);
        Check.stateIs(x, "S=Fc;F=c;G=c;H=c;");
        x = Check.loaded("S=FGc;F=Fx;G=Gx;H=HGxFy;");
        due("exchange()", x.exchange(), 6);
        Check.stateIs(x, "S=GFc;F=Fx;G=Gx;H=HFxGy;");
    }

    private static void exchangeOfAllThereCanBe() {
        Check.sentence("promise 15", "in all bodies each F becomes G and each G becomes F");
        RecursionSchemes x = new RecursionSchemes();
        Check.write(x, times("F", 29) + "c");
        due("setBody(0)", x.setBody(0), 30);
        due("setBody(1)", x.setBody(1), 30);
        due("setBody(3)", x.setBody(3), 30);
        Check.write(x, times("G", 28) + "Fc");
        due("setBody(2)", x.setBody(2), 30);
        due("exchange()", x.exchange(), 4 * 29);
        Check.bodyIs(x, 0, times("G", 29) + "c");
        Check.bodyIs(x, 1, times("F", 28) + "Gc");
        Check.bodyIs(x, 2, times("G", 29) + "c");
        Check.bodyIs(x, 3, times("G", 29) + "c");
    }

    private static void undoCounts() {
        Check.sentence("promise 16", "Returns how many states are still remembered; NOT_POSSIBLE if none is remembered.");
        RecursionSchemes x = new RecursionSchemes();
        Check.notPossible("undo() of nothing", x.undo());
        due("exchange()", x.exchange(), 0);
        due("undo() of one", x.undo(), 0);
        Check.notPossible("undo() of nothing", x.undo());
        for (int i = 0; i < 14; i++) {
            due("exchange()", x.exchange(), 0);
        }
        due("undo() of 14", x.undo(), 13);
        for (int i = 0; i < 2; i++) {
            due("exchange()", x.exchange(), 0);
        }
        due("undo() of 15", x.undo(), 13);
        for (int left = 12; left >= 0; left--) {
            due("undo()", x.undo(), left);
        }
        Check.notPossible("undo() of nothing", x.undo());
        Check.notPossible("undo() of nothing, again", x.undo());
    }

    // ---- promises 17 to 21

    private static void treeAndRun() {
        labels();
        expansions();
        states();
        depthsOfNodes();
        depthsOfWrongBranches();
        smallestWrongBranch();
    }

    private static void labels() {
        Check.sentence("promise 17", "Returns the character code of the label of the node at the path, or UNDEFINED;"
            + " BAD_VALUE; NONE if there is no node.");
        RecursionSchemes x = Check.loaded("S=abbbbbacSd;");
        due("labelAt(0)", x.labelAt(0), 'a');
        due("labelAt(2)", x.labelAt(2), 'd');
        due("labelAt(111111), six steps", x.labelAt(111111), 'a');
        Check.bad("labelAt(1111111), seven steps", x.labelAt(1111111));
        Check.none("labelAt(111112)", x.labelAt(111112));
        Check.none("labelAt(21)", x.labelAt(21));
        Check.bad("labelAt(-1)", x.labelAt(-1));
        Check.bad("labelAt(3)", x.labelAt(3));
        Check.bad("labelAt(10)", x.labelAt(10));
        Check.bad("labelAt(201), though labelAt(2) is a leaf", x.labelAt(201));
        x = Check.loaded("S=bbbbbbFc;F=Fx;");
        due("labelAt(111111)", x.labelAt(111111), UNDEFINED);
    }

    private static void expansions() {
        Check.sentence("promise 18", "the number of expansions that are made in the evaluations of all nodes on the"
            + " path, from the root to the node itself (an evaluation that fails counts the expansions that were made)");
        due("the root alone", new RecursionSchemes().expansionsAt(0), 1);
        due("a failed root", Check.loaded("S=S;").expansionsAt(0), 40);
        RecursionSchemes x = Check.loaded("S=aFbFbSGS;F=x;G=Gx;");
        due("expansionsAt(0)", x.expansionsAt(0), 1);
        due("expansionsAt(1)", x.expansionsAt(1), 2);
        due("expansionsAt(11)", x.expansionsAt(11), 3);
        due("expansionsAt(111)", x.expansionsAt(111), 4);
        due("expansionsAt(1111)", x.expansionsAt(1111), 5);
        due("expansionsAt(2)", x.expansionsAt(2), 1 + 40);
        due("expansionsAt(1112)", x.expansionsAt(1112), 4 + 40);
        Check.none("expansionsAt(21)", x.expansionsAt(21));
        Check.bad("expansionsAt(1111111)", x.expansionsAt(1111111));
        // A node without an expansion of its own has the number of the one above.
        x = Check.loaded("S=bbbbbbc;");
        due("expansionsAt(111111)", x.expansionsAt(111111), 1);
    }

    private static void states() {
        Check.sentence("promise 19", "Returns the state of the node at the path; BAD_VALUE; NONE if there is no node,"
            + " or if the node has no state.");
        RecursionSchemes x = Check.loaded("S=bbbbbbc;0b1;1b2;2b0;");
        int[] paths = {0, 1, 11, 111, 1111, 11111, 111111};
        for (int depth = 0; depth <= 6; depth++) {
            due("stateAt(" + paths[depth] + ")", x.stateAt(paths[depth]), depth % 3);
        }
        Check.bad("stateAt(1111111)", x.stateAt(1111111));
        Check.bad("stateAt(-1)", x.stateAt(-1));
        Check.none("stateAt(2), no node", x.stateAt(2));
        due("removeTransition(2, 1)", x.removeTransition(2, 1), 2);
        due("stateAt(11)", x.stateAt(11), 2);
        Check.none("stateAt(111), no state", x.stateAt(111));
        Check.none("stateAt(111111), no state", x.stateAt(111111));
    }

    private static void depthsOfNodes() {
        Check.sentence("promise 20", "Returns the number of nodes at this depth; BAD_VALUE if depth is out of range.");
        RecursionSchemes full = Check.loaded("S=aSS;");
        RecursionSchemes root = new RecursionSchemes();
        RecursionSchemes failed = Check.loaded("S=S;");
        for (int depth = 0; depth <= 6; depth++) {
            due("nodesAtDepth(" + depth + ")", full.nodesAtDepth(depth), 1 << depth);
            due("nodesAtDepth(" + depth + ")", root.nodesAtDepth(depth), depth == 0 ? 1 : 0);
            due("nodesAtDepth(" + depth + ")", failed.nodesAtDepth(depth), depth == 0 ? 1 : 0);
        }
        for (int depth : new int[] {-1, 7, -7, 8, Integer.MIN_VALUE, Integer.MAX_VALUE}) {
            Check.bad("nodesAtDepth(" + depth + ")", full.nodesAtDepth(depth));
        }
    }

    private static void depthsOfWrongBranches() {
        Check.sentence("promise 21", "of at most this depth .. BAD_VALUE if depth is out of range; NONE if there is none.");
        int[] paths = {0, 1, 11, 111, 1111, 11111, 111111};
        for (int at = 0; at <= 7; at++) {
            RecursionSchemes x = Check.loaded("S=" + times("b", at) + "c;0b0;");
            for (int depth = 0; depth <= 6; depth++) {
                due("wrongBranch(" + depth + "), wrong at " + at, x.wrongBranch(depth), at <= depth ? paths[at] : NONE);
            }
            for (int depth : new int[] {-1, 7, Integer.MIN_VALUE, Integer.MAX_VALUE}) {
                Check.bad("wrongBranch(" + depth + ")", x.wrongBranch(depth));
            }
        }
    }

    private static void smallestWrongBranch() {
        Check.sentence("promise 21", "Returns the shortest wrong branch .. and among branches of the same length the"
            + " smallest number");
        due("222222 alone", Check.loaded("S=adadadadadadc;0a00;0d;").wrongBranch(6), 222222);
        due("111111 alone", Check.loaded("S=aaaaaacdddddd;0a00;0d;").wrongBranch(6), 111111);
        due("both", Check.loaded("S=aaaaaacdddddadadadadadc;0a00;0d;").wrongBranch(6), 111111);
        due("12 and 21", Check.loaded("S=aadcacd;0a00;0d;").wrongBranch(6), 12);
        due("21 and 22", Check.loaded("S=aaddacc;0a00;0d;").wrongBranch(6), 21);
        due("111 and 2", Check.loaded("S=aaacddc;0a00;0d;").wrongBranch(6), 2);
        due("1112 and 221", Check.loaded("S=aaaadcddadacd;0a00;0d;").wrongBranch(6), 221);
        due("11 and 12 and 2", Check.loaded("S=aaccc;0a00;").wrongBranch(6), 2);
    }

    // ---- promises 22 to 26

    private static void types() {
        acceptance();
        roundsOfTheCheck();
        typingCounts();
        setsOfIsValid();
        indexesOfIsValid();
        parametersOfDemand();
        demandOfAllAndNothing();
    }

    private static void acceptance() {
        Check.sentence("promise 22", "Returns 1 if the automaton accepts the tree, otherwise 0.");
        due("accepts() of a new object", new RecursionSchemes().accepts(), 0);
        due("accepts()", Check.loaded("0c;").accepts(), 1);
        due("accepts()", Check.loaded("1c;2c;0d;").accepts(), 0);
        due("accepts(), all transitions", Check.loaded("S=aSbFd;F=aFxbx;" + ALL_TRANSITIONS).accepts(), 1);
    }

    private static void roundsOfTheCheck() {
        Check.sentence("promise 23", "Returns the number of rounds of the type check.");
        due("the fewest", Check.loaded("S=d;F=d;G=d;H=d;0d;1d;2d;").rounds(), 1);
        due("two", new RecursionSchemes().rounds(), 2);
        // One typing goes in each round, and then none does.
        due("four", Check.loaded("S=bS;F=Fx;G=Gx;H=Hxy;0b1;1b2;").rounds(), 4);
        RecursionSchemes x = Check.loaded("S=d;F=d;G=d;H=d;0d;1d;2d;");
        due("removeTransition(2, 3)", x.removeTransition(2, 3), 2);
        due("rounds()", x.rounds(), 2);
        due("undo()", x.undo(), 0);
        due("rounds()", x.rounds(), 1);
    }

    private static void typingCounts() {
        Check.sentence("promise 24", "Returns the number of its valid typings; NO_SUCH_INDEX.");
        RecursionSchemes all = Check.loaded("0c;1c;2c;");
        RecursionSchemes no = new RecursionSchemes();
        int[] most = {3, 24, 24, 192};
        for (int n = -1; n <= 4; n++) {
            boolean exists = n >= 0 && n <= 3;
            due("typingCount(" + n + ")", all.typingCount(n), exists ? most[n] : NO_SUCH_INDEX);
            due("typingCount(" + n + ")", no.typingCount(n), exists ? 0 : NO_SUCH_INDEX);
        }
    }

    private static void setsOfIsValid() {
        Check.sentence("promise 25", "set for the first parameter, 0 to 7; it must be 0 if n has no parameters .. set for"
            + " the second parameter, 0 to 7; it must be 0 if n has less than two parameters");
        for (int n = 0; n < 4; n++) {
            RecursionSchemes x = Check.loaded("0c;1c;2c;");
            for (int s1 = -1; s1 <= 8; s1++) {
                for (int s2 = -1; s2 <= 8; s2++) {
                    boolean first = ARITIES_OF_NONTERMINALS[n] >= 1 ? s1 >= 0 && s1 <= 7 : s1 == 0;
                    boolean second = ARITIES_OF_NONTERMINALS[n] >= 2 ? s2 >= 0 && s2 <= 7 : s2 == 0;
                    String call = "isValid(" + n + ", 2, " + s1 + ", " + s2 + ")";
                    due(call, x.isValid(n, 2, s1, s2), first && second ? 1 : BAD_VALUE);
                }
            }
            Check.bad("isValid(n, 0, MIN, 0)", x.isValid(n, 0, Integer.MIN_VALUE, 0));
            Check.bad("isValid(n, 0, 0, MAX)", x.isValid(n, 0, 0, Integer.MAX_VALUE));
        }
    }

    private static void indexesOfIsValid() {
        Check.sentence("promise 25", "Returns 1 if this typing is valid, otherwise 0; NO_SUCH_INDEX if n or q does not"
            + " exist");
        RecursionSchemes x = Check.loaded("0c;2c;");
        for (int n = -1; n <= 4; n++) {
            for (int q = -1; q <= 3; q++) {
                boolean exists = n >= 0 && n <= 3 && q >= 0 && q <= 2;
                String call = "isValid(" + n + ", " + q + ", 0, 0)";
                due(call, x.isValid(n, q, 0, 0), !exists ? NO_SUCH_INDEX : q == 1 ? 0 : 1);
            }
        }
        // Just the sets with the state that is asked for, and no smaller ones.
        x = Check.loaded("H=axy;0a02;");
        due("isValid(3, 0, 1, 4)", x.isValid(3, 0, 1, 4), 1);
        due("isValid(3, 0, 7, 7)", x.isValid(3, 0, 7, 7), 1);
        due("isValid(3, 0, 6, 7)", x.isValid(3, 0, 6, 7), 0);
        due("isValid(3, 0, 7, 3)", x.isValid(3, 0, 7, 3), 0);
        due("isValid(3, 0, 0, 0)", x.isValid(3, 0, 0, 0), 0);
    }

    private static void parametersOfDemand() {
        Check.sentence("promise 26", "number of a parameter, 1 or 2 .. NO_SUCH_INDEX if n or q does not exist; BAD_VALUE"
            + " if n has no such parameter");
        RecursionSchemes x = Check.loaded("S=S;F=Fx;G=Gx;H=Hxy;");
        for (int n = -1; n <= 4; n++) {
            for (int q = -1; q <= 3; q++) {
                for (int k = -1; k <= 3; k++) {
                    boolean exists = n >= 0 && n <= 3 && q >= 0 && q <= 2;
                    boolean has = exists && k >= 1 && k <= ARITIES_OF_NONTERMINALS[n];
                    String call = "demand(" + n + ", " + q + ", " + k + ")";
                    due(call, x.demand(n, q, k), !exists ? NO_SUCH_INDEX : has ? 0 : BAD_VALUE);
                }
            }
        }
        Check.bad("demand(3, 0, MIN)", x.demand(3, 0, Integer.MIN_VALUE));
        Check.bad("demand(3, 0, MAX)", x.demand(3, 0, Integer.MAX_VALUE));
    }

    private static void demandOfAllAndNothing() {
        Check.sentence("promise 26", "Returns the states that are in the set of parameter k in all valid typings of n"
            + " with the state q, as a bit set .. NONE if there is no such typing.");
        RecursionSchemes x = Check.loaded("F=axaxx;G=c;H=ayx;0a02;2a12;1a11;0c;");
        due("demand(1, 0, 1), all states", x.demand(1, 0, 1), 7);
        due("demand(1, 2, 1), read in 1, in 1 and in 2", x.demand(1, 2, 1), 6);
        due("demand(2, 0, 1), no state", x.demand(2, 0, 1), 0);
        Check.none("demand(2, 1, 1), no typing", x.demand(2, 1, 1));
        due("demand(3, 0, 1)", x.demand(3, 0, 1), 4);
        due("demand(3, 0, 2)", x.demand(3, 0, 2), 1);
        due("demand(3, 1, 1)", x.demand(3, 1, 1), 2);
        due("demand(3, 1, 2)", x.demand(3, 1, 2), 2);
    }

    // ---- promises 27 and 28

    private static void scriptsAndDescents() {
        digitsOfScripts();
        numbersOfDescents();
        anySeed();
        depthsOfDescents();
        stepsOfDescents();
    }

    private static void digitsOfScripts() {
        Check.sentence("promise 27", "BAD_VALUE if n is out of range, or if script is negative or has more than 4 * n"
            + " digits.");
        RecursionSchemes x = new RecursionSchemes();
        long limit = 1;
        for (int n = 1; n <= 4; n++) {
            limit *= 10000;
            due("runScript(" + n + ", 0)", x.runScript(n, 0), 0);
            due("runScript(" + n + ", 1)", x.runScript(n, 1), 0);
            Check.bad("runScript(" + n + ", -1)", x.runScript(n, -1));
            Check.bad("runScript(" + n + ", MIN)", x.runScript(n, Long.MIN_VALUE));
            due("runScript(" + n + ", " + (limit - 1) + ")", x.runScript(n, limit - 1), 0);
            Check.bad("runScript(" + n + ", " + limit + ")", x.runScript(n, limit));
            Check.bad("runScript(" + n + ", " + 10 * limit + ")", x.runScript(n, 10 * limit));
            Check.bad("runScript(" + n + ", MAX)", x.runScript(n, Long.MAX_VALUE));
            // In an int these would be good scripts.
            Check.bad("runScript(" + n + ", 2^32 ..)", x.runScript(n, n < 3 ? (1L << 32) + 3000 : Long.MIN_VALUE + 3000));
        }
        for (int n : new int[] {0, 5, -1, -4, Integer.MIN_VALUE, Integer.MAX_VALUE}) {
            Check.bad("runScript(" + n + ", 0)", x.runScript(n, 0));
            Check.bad("runScript(" + n + ", 3000)", x.runScript(n, 3000));
        }
        Check.none("runScript(1, 3000)", x.runScript(1, 3000));
    }

    private static void numbersOfDescents() {
        Check.sentence("promise 28", "number of descents, 1 to 30 .. BAD_VALUE if m is out of range.");
        RecursionSchemes x = Check.loaded("S=aSS;");
        Check.bad("descend(0, -1)", x.descend(0, -1));
        Check.bad("descend(0, 0)", x.descend(0, 0));
        due("descend(0, 1)", x.descend(0, 1), 6);
        due("descend(0, 30)", x.descend(0, 30), 180);
        Check.bad("descend(0, 31)", x.descend(0, 31));
        Check.bad("descend(0, MIN)", x.descend(0, Integer.MIN_VALUE));
        Check.bad("descend(0, MAX)", x.descend(0, Integer.MAX_VALUE));
    }

    private static void anySeed() {
        Check.sentence("promise 28", "any long");
        RecursionSchemes x = Check.loaded("S=aSc;");
        for (long seed : new long[] {0, -1, 1, Long.MIN_VALUE, Long.MAX_VALUE, 1L << 33, 1L << 32, -(1L << 33)}) {
            for (int m : new int[] {1, 2, 29, 30}) {
                due("descend(" + seed + ", " + m + ")", x.descend(seed, m), sumOfDepths(seed, m));
            }
        }
    }

    /** The descents of S=aSc, where child 1 goes on and child 2 is a leaf. */
    private static int sumOfDepths(long seed, int m) {
        long z = seed;
        int sum = 0;
        for (int i = 0; i < m; i++) {
            int depth = 0;
            for (boolean inner = true; inner && depth < 6; depth++) {
                z = z * 6364136223846793005L + 1442695040888963407L;
                inner = (z >>> 33 & 1) == 0;
            }
            sum += depth;
        }
        return sum;
    }

    private static void depthsOfDescents() {
        Check.sentence("promise 28", "As long as its node has children and its depth is less than 6, it goes on");
        for (int length = 0; length <= 8; length++) {
            RecursionSchemes x = Check.loaded("S=" + times("b", length) + "c;");
            due("descend(5, 1), " + length + " steps", x.descend(5, 1), Math.min(length, 6));
            due("descend(5, 30), " + length + " steps", x.descend(5, 30), 30 * Math.min(length, 6));
        }
        due("descend(5, 30), a failed root", Check.loaded("S=S;").descend(5, 30), 0);
        due("descend(5, 30), a failed child", Check.loaded("S=bFc;F=Fx;").descend(5, 30), 30);
    }

    private static void stepsOfDescents() {
        Check.sentence("promise 28", "z is replaced by z * 6364136223846793005L + 1442695040888963407L (with long"
            + " overflow), and the descent goes to child 1 + (int) (z >>> 33) % k");
        // At the depths 1 and 4 stands an a, whose child 1 is a leaf. The one step of a b replaces z, too;
        // a leaf, or a node at depth 6, does not.
        RecursionSchemes x = Check.loaded("S=badbS;");
        for (long seed = -40; seed <= 40; seed++) {
            long z = seed;
            int sum = 0;
            for (int i = 0; i < 3; i++) {
                int depth = 0;
                boolean leaf = false;
                while (!leaf && depth < 6) {
                    z = z * 6364136223846793005L + 1442695040888963407L;
                    leaf = depth % 3 == 1 && (z >>> 33 & 1) == 0;
                    depth++;
                }
                sum += depth;
            }
            due("descend(" + seed + ", 3)", x.descend(seed, 3), sum);
        }
        due("labelAt(0)", x.labelAt(0), 'b');
        due("labelAt(1)", x.labelAt(1), 'a');
        due("labelAt(11)", x.labelAt(11), 'd');
        due("labelAt(12)", x.labelAt(12), 'b');
        due("labelAt(121)", x.labelAt(121), 'b');
        due("labelAt(1211)", x.labelAt(1211), 'a');
    }

    // ---- promises 29 and 30

    private static void slots() {
        slotsOfSave();
        saveReplaces();
        slotsOfRestore();
        emptySlots();
        restoreForgets();
        slotKeepsItsState();
    }

    private static void slotsOfSave() {
        Check.sentence("promise 29", "Returns the number of transitions; NO_SUCH_INDEX if slot is not 0 or 1.");
        RecursionSchemes x = Check.loaded(ALL_TRANSITIONS);
        Check.noSuch("save(-1)", x.save(-1));
        due("save(0)", x.save(0), 12);
        due("save(1)", x.save(1), 12);
        Check.noSuch("save(2)", x.save(2));
        Check.noSuch("save(MIN)", x.save(Integer.MIN_VALUE));
        Check.noSuch("save(MAX)", x.save(Integer.MAX_VALUE));
        due("save(0) of no transitions", new RecursionSchemes().save(0), 0);
    }

    private static void saveReplaces() {
        Check.sentence("promise 29", "Stores the present state in a slot.");
        RecursionSchemes x = Check.loaded("S=Fd;0d;");
        due("save(0)", x.save(0), 1);
        due("exchange()", x.exchange(), 1);
        due("save(1)", x.save(1), 1);
        due("removeTransition(0, 3)", x.removeTransition(0, 3), 0);
        due("restore(0)", x.restore(0), 1);
        Check.stateIs(x, "S=Fd;F=c;G=c;H=c;0d;");
        due("restore(1)", x.restore(1), 1);
        Check.stateIs(x, "S=Gd;F=c;G=c;H=c;0d;");
        due("save(0), a full slot", x.save(0), 1);
        due("restore(0)", x.restore(0), 1);
        Check.stateIs(x, "S=Gd;F=c;G=c;H=c;0d;");
    }

    private static void slotsOfRestore() {
        Check.sentence("promise 30", "Returns the number of transitions; NO_SUCH_INDEX if slot is not 0 or 1");
        RecursionSchemes x = Check.loaded(ALL_TRANSITIONS);
        due("save(0)", x.save(0), 12);
        due("removeTransition(0, 0)", x.removeTransition(0, 0), 11);
        due("save(1)", x.save(1), 11);
        Check.noSuch("restore(-1)", x.restore(-1));
        due("restore(0)", x.restore(0), 12);
        due("restore(1)", x.restore(1), 11);
        Check.noSuch("restore(2)", x.restore(2));
        Check.noSuch("restore(MIN)", x.restore(Integer.MIN_VALUE));
        Check.noSuch("restore(MAX)", x.restore(Integer.MAX_VALUE));
    }

    private static void emptySlots() {
        Check.sentence("promise 30", "NOT_POSSIBLE if the slot is empty.");
        RecursionSchemes x = Check.loaded("S=d;0d;");
        due("exchange()", x.exchange(), 0);
        Check.notPossible("restore(0)", x.restore(0));
        Check.notPossible("restore(1)", x.restore(1));
        due("save(1)", x.save(1), 1);
        Check.notPossible("restore(0), still empty", x.restore(0));
        Check.stateIs(x, "S=d;F=c;G=c;H=c;0d;");
        due("undo(), it is still remembered", x.undo(), 0);
        due("save(0)", x.save(0), 1);
        due("restore(0)", x.restore(0), 1);
        due("restore(1)", x.restore(1), 1);
    }

    private static void restoreForgets() {
        Check.sentence("promise 30", "Replaces the state by the one in a slot, and forgets all remembered states.");
        RecursionSchemes x = Check.loaded("S=Fd;0d;");
        due("save(1)", x.save(1), 1);
        for (int i = 0; i < 14; i++) {
            due("exchange()", x.exchange(), 1);
        }
        due("removeTransition(0, 3)", x.removeTransition(0, 3), 0);
        due("restore(1)", x.restore(1), 1);
        Check.stateIs(x, "S=Fd;F=c;G=c;H=c;0d;");
        Check.notPossible("undo()", x.undo());
        due("exchange()", x.exchange(), 1);
        due("undo()", x.undo(), 0);
        Check.notPossible("undo()", x.undo());
    }

    private static void slotKeepsItsState() {
        Check.sentence("promise 30", "The slot keeps its state.");
        RecursionSchemes x = Check.loaded("S=Fd;0d;");
        due("save(0)", x.save(0), 1);
        for (int time = 0; time < 3; time++) {
            due("restore(0)", x.restore(0), 1);
            Check.stateIs(x, "S=Fd;F=c;G=c;H=c;0d;");
            due("setTransition(1, 2, 0, 0)", x.setTransition(1, 2, 0, 0), 0);
            due("exchange()", x.exchange(), 1);
            due("inline(0, 0)", x.inline(0, 0), 1);
        }
    }
}
