/**
 * The edges that the section "Description" names for terms, schemes, the tree, the automaton and the
 * types: a test for each sentence.
 */
public final class TreeEdgesTest {
    private static final int NONE = RecursionSchemes.NONE;
    private static final int UNDEFINED = RecursionSchemes.UNDEFINED;
    /** Each F takes two expansions, each G one. */
    private static final String STEPS = "F=Gx;G=x;";
    /** Nothing ever removes a typing of this scheme. */
    private static final String ENDLESS = "S=S;F=Fx;G=Gx;H=Hxy;";

    private TreeEdgesTest() {
    }

    public static void main(String[] args) {
        terms();
        schemes();
        tree();
        automaton();
        types();
        Check.finish();
    }

    private static void due(String call, long got, long want) {
        Check.due(call, got, want);
    }

    private static String times(String symbols, int count) {
        return symbols.repeat(count);
    }

    // ---- terms

    private static void terms() {
        aritiesOfTerminals();
        aritiesOfNonterminals();
        aritiesOfVariables();
        tenCharacters();
        symbolsFromZero();
        numbersOfTerminals();
        numbersOfNonterminals();
    }

    /** Too few arguments, just as many as due, and one too many. */
    private static void hasArity(String nonterminal, String symbol, int arity) {
        String start = nonterminal + "=" + symbol;
        if (arity > 0) {
            Check.errorAt(start + times("c", arity - 1) + ";", 2 + arity);
        }
        Check.errorAt(start + times("c", arity) + ";", NONE);
        Check.errorAt(start + times("c", arity + 1) + ";", 3 + arity);
    }

    private static void aritiesOfTerminals() {
        Check.sentence("TERMS", "The terminals are a (arity 2), b (arity 1), c (arity 0) and d (arity 0).");
        hasArity("S", "a", 2);
        hasArity("S", "b", 1);
        hasArity("S", "c", 0);
        hasArity("S", "d", 0);
    }

    private static void aritiesOfNonterminals() {
        Check.sentence("TERMS", "The nonterminals are S (arity 0), F (arity 1), G (arity 1) and H (arity 2).");
        hasArity("S", "S", 0);
        hasArity("S", "F", 1);
        hasArity("S", "G", 1);
        hasArity("S", "H", 2);
    }

    private static void aritiesOfVariables() {
        Check.sentence("TERMS", "The variables are x and y, with arity 0.");
        hasArity("H", "x", 0);
        hasArity("H", "y", 0);
    }

    private static void tenCharacters() {
        Check.sentence("TERMS", "A symbol is one of these ten characters.");
        for (int c = 0; c <= 255; c++) {
            int symbol = "cdSxybFGaH".indexOf(c);
            // Behind the symbol stand two terms: the first one that is too many is wrong.
            int want = symbol < 0 ? 2 : symbol < 5 ? 3 : symbol < 8 ? 4 : NONE;
            Check.errorAt("H=" + (char) c + "cc;", want);
        }
    }

    private static void symbolsFromZero() {
        Check.sentence("TERMS", "Its length is the number of its symbols, and symbols are counted from 0.");
        RecursionSchemes x = Check.loaded("F=aFcbx;");
        due("bodyLength(1)", x.bodyLength(1), 5);
        due("bodySymbol(1, 0)", x.bodySymbol(1, 0), 'a');
        due("bodySymbol(1, 4)", x.bodySymbol(1, 4), 'x');
        Check.noSuch("bodySymbol(1, 5)", x.bodySymbol(1, 5));
        Check.notPossible("inline(1, 0)", x.inline(1, 0));
        due("inline(1, 1)", x.inline(1, 1), 8);
        Check.bodyIs(x, 1, "aaFcbcbx");
    }

    private static void numbersOfTerminals() {
        Check.sentence("TERMS", "the terminals a, b, c, d have the numbers 0, 1, 2, 3");
        String[] setups = {"0a12;", "0b1;", "0c;", "0d;"};
        for (int t = 0; t < 4; t++) {
            RecursionSchemes x = Check.loaded(setups[t]);
            for (int other = 0; other < 4; other++) {
                due(setups[t] + " hasTransition(0, " + other + ")", x.hasTransition(0, other), other == t ? 1 : 0);
            }
            Check.noSuch("hasTransition(0, -1)", x.hasTransition(0, -1));
            Check.noSuch("hasTransition(0, 4)", x.hasTransition(0, 4));
        }
    }

    private static void numbersOfNonterminals() {
        Check.sentence("TERMS", "the nonterminals S, F, G, H have the numbers 0, 1, 2, 3");
        RecursionSchemes x = Check.loaded("H=bbbc;G=bbc;F=bc;S=d;");
        Check.bodyIs(x, 0, "d");
        Check.bodyIs(x, 1, "bc");
        Check.bodyIs(x, 2, "bbc");
        Check.bodyIs(x, 3, "bbbc");
        Check.noSuch("bodyLength(-1)", x.bodyLength(-1));
        Check.noSuch("bodyLength(4)", x.bodyLength(4));
    }

    // ---- schemes

    private static void schemes() {
        shortestAndLongestBodies();
        noVariablesInS();
        onlyXInFAndG();
        bothVariablesInH();
        bodiesOfANewObject();
        expansionOfATerm();
    }

    /** By load and by setBody: a body that this nonterminal may have, or not. */
    private static void mayBeBody(int n, String body, boolean may) {
        String character = "SFGH".substring(n, n + 1);
        RecursionSchemes x = new RecursionSchemes();
        Check.write(x, character + "=" + body + ";");
        due("load() of " + character + "=" + body + ";", x.load(), may ? 0 : RecursionSchemes.NOT_POSSIBLE);
        Check.bodyIs(x, n, may ? body : "c");
        x = new RecursionSchemes();
        Check.write(x, body);
        due("setBody(" + n + ") of " + body, x.setBody(n), may ? body.length() : RecursionSchemes.NOT_POSSIBLE);
        Check.bodyIs(x, n, may ? body : "c");
    }

    private static void shortestAndLongestBodies() {
        Check.sentence("SCHEMES", "A rule is a term of 1 to 30 symbols, the body.");
        for (int n = 0; n < 4; n++) {
            mayBeBody(n, "", false);
            mayBeBody(n, "d", true);
            mayBeBody(n, times("b", 28) + "d", true);
            mayBeBody(n, times("b", 29) + "d", true);
            mayBeBody(n, times("b", 30) + "d", false);
            mayBeBody(n, times("b", 31) + "d", false);
            mayBeBody(n, times("ad", 14) + "d", true);
            mayBeBody(n, "b" + times("ad", 14) + "d", true);
            mayBeBody(n, times("ad", 15) + "d", false);
        }
    }

    private static void noVariablesInS() {
        Check.sentence("SCHEMES", "The body of S contains no variables");
        mayBeBody(0, "x", false);
        mayBeBody(0, "y", false);
        mayBeBody(0, "acbx", false);
        mayBeBody(0, "Fy", false);
        mayBeBody(0, "acbd", true);
    }

    private static void onlyXInFAndG() {
        Check.sentence("SCHEMES", "the bodies of F and G contain no variable but x");
        for (int n = 1; n <= 2; n++) {
            mayBeBody(n, "x", true);
            mayBeBody(n, "axHxx", true);
            mayBeBody(n, "y", false);
            mayBeBody(n, "axy", false);
            mayBeBody(n, "c", true);
        }
    }

    private static void bothVariablesInH() {
        Check.sentence("SCHEMES", "the body of H may contain x and y");
        mayBeBody(3, "x", true);
        mayBeBody(3, "y", true);
        mayBeBody(3, "ayHxbx", true);
        mayBeBody(3, "c", true);
        mayBeBody(3, "z", false);
    }

    private static void bodiesOfANewObject() {
        Check.sentence("SCHEMES", "In a new object each body is the term c.");
        Check.stateIs(new RecursionSchemes(), "S=c;F=c;G=c;H=c;");
    }

    private static void expandsTo(String setup, int i, String want) {
        RecursionSchemes x = Check.loaded(setup);
        due("inline(0, " + i + ") of " + setup, x.inline(0, i), want.length());
        Check.bodyIs(x, 0, want);
    }

    private static void expansionOfATerm() {
        Check.sentence("SCHEMES", "replace the whole term by the body of that nonterminal, in"
            + " which each x is replaced by the first argument and each y by the second argument.");
        expandsTo("S=Hbcbbd;H=d;", 0, "d");
        expandsTo("S=Hbcbbd;H=x;", 0, "bc");
        expandsTo("S=Hbcbbd;H=y;", 0, "bbd");
        expandsTo("S=Hbcbbd;H=ayx;", 0, "abbdbc");
        expandsTo("S=Hbcbbd;H=aaxyaxy;", 0, "aabcbbdabcbbd");
        expandsTo("S=aHSFdGc;H=Hyx;", 1, "aHFdSGc");
        expandsTo("S=aGSFd;F=axx;", 3, "aGSadd");
    }

    // ---- the tree

    private static void tree() {
        limitOfSymbols();
        limitOfSymbolsBelowTheRoot();
        expansionNotMade();
        limitOfExpansions();
        limitOfExpansionsBelowTheRoot();
        limitsOfEachNode();
        rootHasTheTermS();
        pathsAsNumbers();
        childrenThatDoNotExist();
        failedNodes();
    }

    private static void nodeIs(String setup, int path, int label, int expansions) {
        RecursionSchemes x = Check.loaded(setup);
        due("labelAt(" + path + ") of " + setup, x.labelAt(path), label);
        due("expansionsAt(" + path + ") of " + setup, x.expansionsAt(path), expansions);
    }

    private static void limitOfSymbols() {
        Check.sentence("THE TREE", "The evaluation fails if an expansion would give a term of more than 200 symbols");
        // Seven times 27 symbols and six times a are 195.
        String start = "S=F" + times("b", 26) + "c;F=";
        String rest = times("ax", 6) + "x;";
        nodeIs(start + times("b", 4) + rest, 0, 'b', 2);
        nodeIs(start + times("b", 5) + rest, 0, 'b', 2);
        nodeIs(start + times("b", 6) + rest, 0, UNDEFINED, 1);
        nodeIs(start + times("b", 7) + rest, 0, UNDEFINED, 1);
        // With a term of 200 symbols the evaluation goes on.
        nodeIs(start + "Gbbbb" + rest + "G=bx;", 0, 'b', 3);
        nodeIs(start + "Gbbbb" + rest + "G=bbx;", 0, UNDEFINED, 2);
        nodeIs(start + "Gbbbb" + rest + "G=d;", 0, 'd', 3);
        // 201 symbols are too many even if a later expansion would make them fewer.
        nodeIs(start + "Gbbbbb" + rest + "G=d;", 0, UNDEFINED, 1);
    }

    private static void limitOfSymbolsBelowTheRoot() {
        Check.sentence("THE TREE, below the root", "more than 200 symbols");
        // Seven times 26 symbols and six times a are 188.
        String start = "S=bF" + times("b", 25) + "c;F=";
        String rest = times("ax", 6) + "x;";
        nodeIs(start + times("b", 12) + rest, 1, 'b', 2);
        nodeIs(start + times("b", 13) + rest, 1, UNDEFINED, 1);
        nodeIs(start + times("b", 13) + rest, 0, 'b', 1);
    }

    private static void expansionNotMade() {
        Check.sentence("THE TREE", "(that expansion is not made)");
        // The term has 3, 7, 15, 31, 63, 127 symbols; the next one would have 255.
        nodeIs("S=Hcd;H=HHxyHyx;", 0, UNDEFINED, 1 + 5);
        nodeIs("S=bHcd;H=HHxyHyx;", 1, UNDEFINED, 1 + 5);
    }

    private static void limitOfExpansions() {
        Check.sentence("THE TREE", "if the first symbol is still a nonterminal after 40 expansions");
        nodeIs("S=" + times("F", 19) + "c;" + STEPS, 0, 'c', 39);
        nodeIs("S=" + times("F", 19) + "Gc;" + STEPS, 0, 'c', 40);
        nodeIs("S=" + times("F", 20) + "c;" + STEPS, 0, UNDEFINED, 40);
        nodeIs("S=" + times("F", 21) + "c;" + STEPS, 0, UNDEFINED, 40);
        nodeIs("S=S;", 0, UNDEFINED, 40);
    }

    private static void limitOfExpansionsBelowTheRoot() {
        Check.sentence("THE TREE, below the root", "after 40 expansions");
        nodeIs("S=b" + times("F", 20) + "d;" + STEPS, 1, 'd', 1 + 40);
        nodeIs("S=b" + times("F", 20) + "Gd;" + STEPS, 1, UNDEFINED, 1 + 40);
        nodeIs("S=b" + times("F", 20) + "S;" + STEPS, 1, UNDEFINED, 1 + 40);
        nodeIs("S=b" + times("F", 20) + "S;" + STEPS, 0, 'b', 1);
    }

    private static void limitsOfEachNode() {
        Check.sentence("THE TREE", "These limits hold for the evaluation of each node by itself.");
        // Each node below the root takes just 40 expansions.
        nodeIs("S=b" + times("F", 19) + "GS;" + STEPS, 111111, 'b', 1 + 6 * 40);
        // A node has 200 symbols, and its child, which begins with 199, has 200 again.
        String setup = "S=bF" + times("b", 25) + "c;F=bG" + times("b", 10) + times("ax", 6) + "x;G=";
        nodeIs(setup + "bbx;", 1, 'b', 2);
        nodeIs(setup + "bbx;", 11, 'b', 3);
        nodeIs(setup + "bbbx;", 1, 'b', 2);
        nodeIs(setup + "bbbx;", 11, UNDEFINED, 2);
        // A failed node does not make another one fail.
        RecursionSchemes x = Check.loaded("S=aFdFc;F=bGx;G=Gx;");
        due("labelAt(11)", x.labelAt(11), UNDEFINED);
        due("labelAt(2)", x.labelAt(2), 'b');
        due("expansionsAt(2)", x.expansionsAt(2), 2);
        due("expansionsAt(21)", x.expansionsAt(21), 2 + 40);
    }

    private static void rootHasTheTermS() {
        Check.sentence("THE TREE", "The root has the term S.");
        nodeIs("S=d;", 0, 'd', 1);
        nodeIs("S=c;F=d;G=d;H=d;", 0, 'c', 1);
    }

    private static void pathsAsNumbers() {
        Check.sentence("THE TREE", "the first step as the highest digit; the path of the root is 0.");
        RecursionSchemes x = Check.loaded("S=aacbabdcaaddc;");
        due("labelAt(0)", x.labelAt(0), 'a');
        due("labelAt(12)", x.labelAt(12), 'b');
        due("labelAt(121)", x.labelAt(121), 'a');
        due("labelAt(1211)", x.labelAt(1211), 'b');
        due("labelAt(1212)", x.labelAt(1212), 'c');
        due("labelAt(21)", x.labelAt(21), 'a');
        due("labelAt(212)", x.labelAt(212), 'd');
        due("labelAt(22)", x.labelAt(22), 'c');
    }

    private static void childrenThatDoNotExist() {
        Check.sentence("THE TREE", "There is no node at a path if some step of the path chooses a child"
            + " that does not exist.");
        RecursionSchemes x = Check.loaded("S=acbd;");
        due("labelAt(1)", x.labelAt(1), 'c');
        due("labelAt(2)", x.labelAt(2), 'b');
        due("labelAt(21)", x.labelAt(21), 'd');
        // Below c; child 2 of b; below d; below nodes that are not there.
        int[] without = {11, 12, 22, 211, 212, 111, 222, 221, 222222, 111111, 212121};
        for (int path : without) {
            Check.none("labelAt(" + path + ")", x.labelAt(path));
            Check.none("expansionsAt(" + path + ")", x.expansionsAt(path));
            Check.none("stateAt(" + path + ")", x.stateAt(path));
        }
    }

    private static void failedNodes() {
        Check.sentence("THE TREE", "If the evaluation of the term of a node fails, the node has the label UNDEFINED"
            + " and no children.");
        // The term of the failed node has two arguments, but it has no children.
        RecursionSchemes x = Check.loaded("S=aHcdd;H=Hxy;");
        due("labelAt(1)", x.labelAt(1), UNDEFINED);
        Check.none("labelAt(11)", x.labelAt(11));
        Check.none("labelAt(12)", x.labelAt(12));
        due("nodesAtDepth(1)", x.nodesAtDepth(1), 2);
        due("nodesAtDepth(2)", x.nodesAtDepth(2), 0);
        due("descend(1, 30)", x.descend(1, 30), 30);
    }

    // ---- the automaton

    private static void automaton() {
        threeStates();
        newAutomaton();
        rootHasState0();
        statesOfChildren();
        wrongNodes();
        undefinedIsNotWrong();
        acceptanceWithoutLimits();
        endlessEvaluations();
    }

    private static void threeStates() {
        Check.sentence("THE AUTOMATON", "The automaton has the states 0, 1 and 2");
        RecursionSchemes x = new RecursionSchemes();
        Check.noSuch("setTransition(-1, 1, 0, 0)", x.setTransition(-1, 1, 0, 0));
        due("setTransition(0, 1, 2, 0)", x.setTransition(0, 1, 2, 0), 0);
        due("setTransition(2, 1, 0, 0)", x.setTransition(2, 1, 0, 0), 0);
        Check.noSuch("setTransition(3, 1, 0, 0)", x.setTransition(3, 1, 0, 0));
        Check.bad("setTransition(0, 1, 3, 0)", x.setTransition(0, 1, 3, 0));
        Check.stateIs(x, "S=c;F=c;G=c;H=c;0b2;2b0;");
    }

    private static void newAutomaton() {
        Check.sentence("THE AUTOMATON", "A new object has no transitions.");
        RecursionSchemes x = new RecursionSchemes();
        for (int q = 0; q < 3; q++) {
            for (int t = 0; t < 4; t++) {
                due("hasTransition(" + q + ", " + t + ")", x.hasTransition(q, t), 0);
            }
        }
        due("save(0)", x.save(0), 0);
    }

    private static void rootHasState0() {
        Check.sentence("THE AUTOMATON", "The run gives the root the state 0.");
        due("stateAt(0) of a wrong root", new RecursionSchemes().stateAt(0), 0);
        due("stateAt(0)", Check.loaded("0c;").stateAt(0), 0);
        due("stateAt(0) of a failed root", Check.loaded("S=S;").stateAt(0), 0);
        due("wrongBranch(0)", Check.loaded("1c;2c;").wrongBranch(0), 0);
        due("wrongBranch(0)", Check.loaded("0c;").wrongBranch(0), NONE);
    }

    private static void statesOfChildren() {
        Check.sentence("THE AUTOMATON", "the children get the states of the transition.");
        for (int q1 = 0; q1 < 3; q1++) {
            for (int q2 = 0; q2 < 3; q2++) {
                RecursionSchemes x = Check.loaded("S=acd;0a" + q1 + q2 + ";");
                due("stateAt(1)", x.stateAt(1), q1);
                due("stateAt(2)", x.stateAt(2), q2);
            }
            due("stateAt(1)", Check.loaded("S=bc;0b" + q1 + ";").stateAt(1), q1);
        }
    }

    private static void wrongNodes() {
        Check.sentence("THE AUTOMATON", "If there is none, the node is wrong, and the nodes below it get no"
            + " state.");
        RecursionSchemes x = Check.loaded("S=abbcbbd;0a12;2b2;1c;2d;");
        due("stateAt(1), wrong", x.stateAt(1), 1);
        due("wrongBranch(6)", x.wrongBranch(6), 1);
        Check.none("stateAt(11)", x.stateAt(11));
        Check.none("stateAt(111)", x.stateAt(111));
        due("labelAt(111)", x.labelAt(111), 'c');
        due("stateAt(2)", x.stateAt(2), 2);
        due("stateAt(211)", x.stateAt(211), 2);
        // The node below has no state, so it is not wrong either.
        due("setTransition(1, 1, 0, 0)", x.setTransition(1, 1, 0, 0), 0);
        due("wrongBranch(6)", x.wrongBranch(6), 11);
    }

    private static void undefinedIsNotWrong() {
        Check.sentence("THE AUTOMATON", "A node with the label UNDEFINED may have a state, but it is not wrong.");
        RecursionSchemes x = Check.loaded("S=bFc;F=Fx;0b2;");
        due("labelAt(1)", x.labelAt(1), UNDEFINED);
        due("stateAt(1)", x.stateAt(1), 2);
        Check.none("wrongBranch(6)", x.wrongBranch(6));
        due("removeTransition(0, 1)", x.removeTransition(0, 1), 0);
        Check.none("stateAt(1)", x.stateAt(1));
        Check.none("wrongBranch(6)", Check.loaded("S=S;").wrongBranch(6));
    }

    /** The wrong node lies where the bounded tree does not reach. */
    private static void wrongFarAway(String setup, int stateOfRest, int terminal) {
        RecursionSchemes x = Check.loaded(setup);
        Check.none("wrongBranch(6) of " + setup, x.wrongBranch(6));
        due("accepts() of " + setup, x.accepts(), 0);
        due("setTransition", x.setTransition(stateOfRest, terminal, 0, 0), 0);
        due("accepts() of " + setup + ", mended", x.accepts(), 1);
    }

    private static void acceptanceWithoutLimits() {
        Check.sentence("THE AUTOMATON", "The automaton accepts the tree if the tree, taken without the limits on"
            + " expansions and symbols, has no wrong node.");
        wrongFarAway("S=" + times("F", 20) + "d;" + STEPS, 0, 3);
        wrongFarAway("S=F" + times("b", 26) + "c;F=" + times("b", 6) + times("ax", 6) + "x;0a00;0b0;", 0, 2);
        wrongFarAway("S=" + times("b", 7) + "c;0b0;", 0, 2);
        wrongFarAway("S=" + times("b", 7) + "c;0b1;1b1;", 1, 2);
        // One step higher, it is seen.
        due("wrongBranch(6)", Check.loaded("S=" + times("b", 6) + "c;0b0;").wrongBranch(6), 111111);
        due("wrongBranch(6)", Check.loaded("S=" + times("F", 19) + "Gd;" + STEPS).wrongBranch(6), 0);
    }

    private static void endlessEvaluations() {
        Check.sentence("THE AUTOMATON", "(Where an evaluation would never end, there is no wrong node.)");
        due("accepts()", Check.loaded("S=S;").accepts(), 1);
        due("accepts()", Check.loaded("S=Fd;F=GFx;G=Gx;").accepts(), 1);
        due("accepts()", Check.loaded("S=Hcd;H=HHxyHyx;").accepts(), 1);
        due("accepts()", Check.loaded("S=aFcS;F=x;").accepts(), 0);
        due("accepts()", Check.loaded("S=aFcd;F=Fx;0a12;2d;").accepts(), 1);
        due("accepts()", Check.loaded("S=aFcd;F=Fx;0a12;1d;").accepts(), 0);
    }

    // ---- types

    private static void types() {
        numbersOfTypings();
        typeOfAVariable();
        typeOfATerminal();
        typeOfANonterminal();
        allTypingsAtTheBeginning();
        roundsJudgeByTheirBeginning();
        lastRoundCounts();
        acceptanceByTypes();
    }

    private static void numbersOfTypings() {
        Check.sentence("TYPES", "So S has 3 typings, F and G have 24 each and H has 192.");
        int[] want = {3, 24, 24, 192};
        int[] arities = {0, 1, 1, 2};
        for (int n = 0; n < 4; n++) {
            RecursionSchemes x = Check.loaded(ENDLESS);
            due("typingCount(" + n + ")", x.typingCount(n), want[n]);
            int found = 0;
            for (int q = 0; q < 3; q++) {
                for (int sets = 0; sets < 1 << 3 * arities[n]; sets++) {
                    found += x.isValid(n, q, sets & 7, sets >> 3);
                }
            }
            due("the typings of " + n, found, want[n]);
        }
    }

    private static void typeOfAVariable() {
        Check.sentence("TYPES", "a variable, if q is in its set");
        RecursionSchemes f = Check.loaded("F=x;");
        RecursionSchemes first = Check.loaded("H=x;");
        RecursionSchemes second = Check.loaded("H=y;");
        for (int q = 0; q < 3; q++) {
            for (int s1 = 0; s1 <= 7; s1++) {
                due("isValid(1, " + q + ", " + s1 + ", 0)", f.isValid(1, q, s1, 0), s1 >> q & 1);
                for (int s2 = 0; s2 <= 7; s2++) {
                    due("x has the type " + q, first.isValid(3, q, s1, s2), s1 >> q & 1);
                    due("y has the type " + q, second.isValid(3, q, s1, s2), s2 >> q & 1);
                }
            }
        }
    }

    private static void typeOfATerminal() {
        Check.sentence("TYPES", "a terminal with arguments, if there is a transition for q and the terminal, and each"
            + " argument has the type that the transition gives it");
        RecursionSchemes x = Check.loaded("F=bx;G=d;H=axy;0a02;2a11;1b2;0d;");
        for (int s1 = 0; s1 <= 7; s1++) {
            due("isValid(1, 0, s1, 0)", x.isValid(1, 0, s1, 0), 0);
            due("isValid(1, 1, s1, 0)", x.isValid(1, 1, s1, 0), s1 >> 2 & 1);
            due("isValid(2, 0, s1, 0)", x.isValid(2, 0, s1, 0), 1);
            due("isValid(2, 2, s1, 0)", x.isValid(2, 2, s1, 0), 0);
            for (int s2 = 0; s2 <= 7; s2++) {
                due("isValid(3, 0, s1, s2)", x.isValid(3, 0, s1, s2), s1 & s2 >> 2 & 1);
                due("isValid(3, 1, s1, s2)", x.isValid(3, 1, s1, s2), 0);
                due("isValid(3, 2, s1, s2)", x.isValid(3, 2, s1, s2), s1 >> 1 & s2 >> 1 & 1);
            }
        }
    }

    private static void typeOfANonterminal() {
        Check.sentence("TYPES", "a nonterminal with arguments, if the given set contains a typing of"
            + " this nonterminal with the state q such that each argument has all types in the set of its parameter.");
        // G needs two types of its argument.
        RecursionSchemes x = Check.loaded("S=Gc;F=Gx;G=axx;H=Gy;0a12;1c;");
        for (int s = 0; s <= 7; s++) {
            due("isValid(1, 0, " + s + ", 0)", x.isValid(1, 0, s, 0), (s & 6) == 6 ? 1 : 0);
            due("isValid(3, 0, 0, " + s + ")", x.isValid(3, 0, 0, s), (s & 6) == 6 ? 1 : 0);
        }
        due("isValid(0, 0, 0, 0), c has one of two types", x.isValid(0, 0, 0, 0), 0);
        due("setTransition(2, 2, 0, 0)", x.setTransition(2, 2, 0, 0), 0);
        due("isValid(0, 0, 0, 0), c has both", x.isValid(0, 0, 0, 0), 1);
        // The empty set asks for nothing, so the argument may have no type at all.
        x = Check.loaded("S=Fd;F=c;0c;");
        due("isValid(0, 0, 0, 0)", x.isValid(0, 0, 0, 0), 1);
        due("isValid(1, 0, 0, 0)", x.isValid(1, 0, 0, 0), 1);
        due("isValid(0, 1, 0, 0)", x.isValid(0, 1, 0, 0), 0);
    }

    private static void allTypingsAtTheBeginning() {
        Check.sentence("TYPES", "The type check begins with the set of all typings.");
        RecursionSchemes x = Check.loaded("S=Fc;F=Fx;G=Hxx;H=Hxy;");
        due("typingCount(0)", x.typingCount(0), 3);
        due("typingCount(1)", x.typingCount(1), 24);
        due("typingCount(2)", x.typingCount(2), 24);
        due("typingCount(3)", x.typingCount(3), 192);
        due("rounds()", x.rounds(), 1);
    }

    private static void roundsJudgeByTheirBeginning() {
        Check.sentence("TYPES", "In each round it removes all typings that are not justified by the set"
            + " at the beginning of the round.");
        // In both orders one nonterminal goes in each round, as none sees what the same round removes.
        due("rounds()", Check.loaded("S=Fc;F=Gx;G=Hxx;H=d;").rounds(), 5);
        due("rounds()", Check.loaded("S=c;F=S;G=Fx;H=Gx;").rounds(), 5);
        due("rounds()", Check.loaded("S=bS;0b1;1b2;F=Fx;G=Gx;H=Hxy;").rounds(), 4);
        due("rounds()", Check.loaded("S=Fc;F=Gx;G=Hxx;H=bS;0b1;1b2;").rounds(), 13);
    }

    private static void lastRoundCounts() {
        Check.sentence("TYPES", "It ends after the first round that removes nothing. (That round counts, too.)");
        due("rounds(), nothing to remove", Check.loaded(ENDLESS).rounds(), 1);
        due("rounds(), nothing to remove", Check.loaded("0c;1c;2c;").rounds(), 1);
        due("rounds(), all goes at once", new RecursionSchemes().rounds(), 2);
        due("rounds(), one typing goes", Check.loaded("S=c;F=Fx;G=Gx;H=Hxy;0c;1c;").rounds(), 2);
    }

    private static void acceptanceByTypes() {
        Check.sentence("TYPES", "The automaton accepts the tree just if the typing of S with the state 0 is valid.");
        String[] transitions = {"0c;", "1c;", "2c;"};
        for (int set = 0; set <= 7; set++) {
            String setup = "";
            for (int q = 0; q < 3; q++) {
                setup += (set >> q & 1) != 0 ? transitions[q] : "";
            }
            RecursionSchemes x = Check.loaded(setup);
            due("accepts() with " + setup, x.accepts(), set & 1);
            for (int q = 0; q < 3; q++) {
                due("isValid(0, " + q + ", 0, 0) with " + setup, x.isValid(0, q, 0, 0), set >> q & 1);
            }
        }
    }
}
