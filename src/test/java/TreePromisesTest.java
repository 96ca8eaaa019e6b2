/**
 * The promises 17 to 30, each by itself, and the examples: ordinary inputs, the edges the document
 * names, wrong inputs.
 */
public final class TreePromisesTest {
    private static final int NO_SUCH_INDEX = -1;
    private static final int BAD_VALUE = -2;
    private static final int NOT_POSSIBLE = -3;
    private static final int NONE = -9;
    private static final int UNDEFINED = 0;

    /** A comb whose teeth, to the left, are c, bc, bbc and so on; it is accepted. */
    private static final String COMB = "S=Fc;F=axFbx;0a10;1b1;1c;";

    private static final int[] BAD_PATHS = {
        -1, 3, 9, 10, 20, 13, 31, 101, 120, 100000, 222220, 222223, 300000, 999999, 1000000, 1111111,
        2222222, -11, -111111, 2111111111, Integer.MIN_VALUE, Integer.MAX_VALUE
    };

    private TreePromisesTest() {
    }

    public static void main(String[] args) {
        examples();
        labelAt();
        labelAtTheLimits();
        expansionsAt();
        stateAt();
        nodesAtDepth();
        wrongBranch();
        accepts();
        acceptsWithoutLimits();
        rounds();
        typingCount();
        isValid();
        demand();
        runScript();
        runScriptOnTransitions();
        runScriptOnChecks();
        descend();
        save();
        restore();
        Check.finish();
    }

    private static void due(String call, long got, long want) {
        Check.due(call, got, want);
    }

    private static void noSuch(String call, int got) {
        Check.due(call, got, NO_SUCH_INDEX);
    }

    private static void bad(String call, int got) {
        Check.due(call, got, BAD_VALUE);
    }

    private static String times(String symbols, int count) {
        return symbols.repeat(count);
    }

    private static void examples() {
        Check.part("example 1");
        RecursionSchemes x = Check.loaded("S=bS;0b0;");
        due("accepts()", x.accepts(), 1);
        due("labelAt(111)", x.labelAt(111), 98);
        due("stateAt(111)", x.stateAt(111), 0);
        due("nodesAtDepth(6)", x.nodesAtDepth(6), 1);
        due("wrongBranch(6)", x.wrongBranch(6), NONE);

        Check.part("example 2");
        x = Check.loaded("S=bS;0b1;");
        due("accepts()", x.accepts(), 0);
        due("wrongBranch(6)", x.wrongBranch(6), 1);
        due("stateAt(1)", x.stateAt(1), 1);
        due("stateAt(11)", x.stateAt(11), NONE);
        due("rounds()", x.rounds(), 3);

        Check.part("example 3");
        x = Check.loaded("S=S;");
        due("labelAt(0)", x.labelAt(0), UNDEFINED);
        due("expansionsAt(0)", x.expansionsAt(0), 40);
        due("labelAt(1)", x.labelAt(1), NONE);
        due("accepts()", x.accepts(), 1);

        Check.part("example 4");
        x = new RecursionSchemes();
        Check.write(x, "S=ac;");
        due("errorPosition()", x.errorPosition(), 4);
        due("load()", x.load(), NOT_POSSIBLE);

        Check.part("example 5");
        x = Check.loaded("F=bx;");
        due("demand(1, 0, 1)", x.demand(1, 0, 1), NONE);
        due("typingCount(1)", x.typingCount(1), 0);
        due("setTransition(0, 1, 2, 0)", x.setTransition(0, 1, 2, 0), 0);
        due("demand(1, 0, 1)", x.demand(1, 0, 1), 4);
        due("isValid(1, 0, 4, 0)", x.isValid(1, 0, 4, 0), 1);
        due("isValid(1, 0, 3, 0)", x.isValid(1, 0, 3, 0), 0);
    }

    private static void labelAt() {
        Check.part("promise 17");
        RecursionSchemes x = Check.loaded("S=abFdHcd;F=bGx;G=Gx;H=ayx;");
        due("labelAt(0)", x.labelAt(0), 'a');
        due("labelAt(1)", x.labelAt(1), 'b');
        due("labelAt(11)", x.labelAt(11), 'b');
        due("labelAt(111)", x.labelAt(111), UNDEFINED);
        due("labelAt(1111)", x.labelAt(1111), NONE);
        due("labelAt(12)", x.labelAt(12), NONE);
        due("labelAt(2)", x.labelAt(2), 'a');
        due("labelAt(21)", x.labelAt(21), 'd');
        due("labelAt(22)", x.labelAt(22), 'c');
        due("labelAt(221)", x.labelAt(221), NONE);
        due("labelAt(222222)", x.labelAt(222222), NONE);
        for (int path : BAD_PATHS) {
            bad("labelAt(" + path + ")", x.labelAt(path));
        }
        x = Check.loaded("S=aSbS;");
        due("labelAt(222222)", x.labelAt(222222), NONE);
        due("labelAt(212121)", x.labelAt(212121), 'a');
        due("labelAt(121212)", x.labelAt(121212), 'b');
        due("labelAt(112112)", x.labelAt(112112), 'b');
        due("labelAt(111111)", x.labelAt(111111), 'a');
        Check.write(x, "d");
        due("setBody(0)", x.setBody(0), 1);
        due("labelAt(0)", x.labelAt(0), 'd');
        due("undo()", x.undo(), 0);
        due("labelAt(0)", x.labelAt(0), 'a');
    }

    private static void rootIs(String setup, int label, int expansions) {
        RecursionSchemes x = Check.loaded(setup);
        due("labelAt(0) of " + setup, x.labelAt(0), label);
        due("expansionsAt(0) of " + setup, x.expansionsAt(0), expansions);
        if (label == UNDEFINED) {
            due("labelAt(1) of " + setup, x.labelAt(1), NONE);
            due("nodesAtDepth(1) of " + setup, x.nodesAtDepth(1), 0);
        }
    }

    private static void labelAtTheLimits() {
        Check.part("promise 17, the limits");
        String each = "F=Gx;G=x;";
        rootIs("S=" + times("F", 19) + "c;" + each, 'c', 39);
        rootIs("S=" + times("F", 19) + "Hcc;H=d;" + each, 'd', 40);
        rootIs("S=" + times("F", 20) + "c;" + each, UNDEFINED, 40);
        rootIs("S=" + times("F", 19) + "HSd;H=y;" + each, 'd', 40);
        rootIs("S=" + times("F", 19) + "HdS;H=y;" + each, UNDEFINED, 40);
        // 7 times 27 symbols and 6 times a are 195, so 5 times b make 200.
        String rest = times("ax", 6) + "x;";
        String start = "S=F" + times("b", 26) + "c;F=";
        rootIs(start + times("b", 5) + rest, 'b', 2);
        rootIs(start + times("b", 6) + rest, UNDEFINED, 1);
        // A term of 200 symbols may be expanded further, if that does not make it longer.
        rootIs(start + "Gbbbb" + rest + "G=d;", 'd', 3);
        rootIs(start + "Gbbbb" + rest + "G=bx;", 'b', 3);
        rootIs(start + "Gbbbb" + rest + "G=bbx;", UNDEFINED, 2);
        rootIs(start + "Gbbbbb" + rest + "G=d;", UNDEFINED, 1);
        // The limits hold for each node by itself: no node here has more than 21 expansions.
        RecursionSchemes x = Check.loaded("S=b" + times("F", 20) + "S;F=x;");
        due("labelAt(111111)", x.labelAt(111111), 'b');
        due("expansionsAt(111111)", x.expansionsAt(111111), 1 + 6 * 21);
    }

    private static void expansionsAt() {
        Check.part("promise 18");
        RecursionSchemes x = Check.loaded("S=abFdHcd;F=bGx;G=Gx;H=ayx;");
        due("expansionsAt(0)", x.expansionsAt(0), 1);
        due("expansionsAt(1)", x.expansionsAt(1), 1);
        due("expansionsAt(11)", x.expansionsAt(11), 2);
        due("expansionsAt(111)", x.expansionsAt(111), 42);
        due("expansionsAt(1111)", x.expansionsAt(1111), NONE);
        due("expansionsAt(2)", x.expansionsAt(2), 2);
        due("expansionsAt(21)", x.expansionsAt(21), 2);
        due("expansionsAt(22)", x.expansionsAt(22), 2);
        due("expansionsAt(221)", x.expansionsAt(221), NONE);
        for (int path : BAD_PATHS) {
            bad("expansionsAt(" + path + ")", x.expansionsAt(path));
        }
        x = Check.loaded(COMB);
        due("expansionsAt(222222)", x.expansionsAt(222222), 8);
        due("expansionsAt(222221)", x.expansionsAt(222221), 7);
        // The node grows and fails after some expansions; those of the nodes above count, too.
        x = Check.loaded("S=bHcd;H=HHxyHyx;");
        due("labelAt(1)", x.labelAt(1), UNDEFINED);
        due("expansionsAt(0)", x.expansionsAt(0), 1);
        due("expansionsAt(1)", x.expansionsAt(1), 1 + growths());
    }

    /** How many times the two arguments, 1 and 1 symbols, become 1 + m + n each without passing 200. */
    private static int growths() {
        int made = 0;
        for (int each = 1; 1 + 2 * (1 + 2 * each) <= 200; each = 1 + 2 * each) {
            made++;
        }
        return made;
    }

    private static void stateAt() {
        Check.part("promise 19");
        RecursionSchemes x = Check.loaded("S=abFcadS;F=Fx;0a12;1b2;2a01;0d;");
        due("stateAt(0)", x.stateAt(0), 0);
        due("stateAt(1)", x.stateAt(1), 1);
        due("stateAt(2)", x.stateAt(2), 2);
        due("stateAt(11), undefined", x.stateAt(11), 2);
        due("labelAt(11)", x.labelAt(11), UNDEFINED);
        due("stateAt(111)", x.stateAt(111), NONE);
        due("stateAt(12)", x.stateAt(12), NONE);
        due("stateAt(21)", x.stateAt(21), 0);
        due("stateAt(22), wrong", x.stateAt(22), 1);
        due("labelAt(22)", x.labelAt(22), 'a');
        due("wrongBranch(6)", x.wrongBranch(6), 22);
        due("labelAt(222), without a state", x.labelAt(222), 'a');
        due("stateAt(222)", x.stateAt(222), NONE);
        due("stateAt(2221)", x.stateAt(2221), NONE);
        for (int path : BAD_PATHS) {
            bad("stateAt(" + path + ")", x.stateAt(path));
        }
        due("setTransition(1, 0, 2, 0)", x.setTransition(1, 0, 2, 0), 0);
        due("stateAt(222)", x.stateAt(222), 0);
        due("stateAt(221)", x.stateAt(221), 2);
        due("undo()", x.undo(), 0);
        due("stateAt(222)", x.stateAt(222), NONE);
        due("stateAt(0)", new RecursionSchemes().stateAt(0), 0);
    }

    private static void countsAre(String setup, int... counts) {
        RecursionSchemes x = Check.loaded(setup);
        for (int depth = 0; depth <= 6; depth++) {
            due("nodesAtDepth(" + depth + ") of " + setup, x.nodesAtDepth(depth), counts[depth]);
        }
        bad("nodesAtDepth(7)", x.nodesAtDepth(7));
        bad("nodesAtDepth(-1)", x.nodesAtDepth(-1));
        bad("nodesAtDepth(MIN)", x.nodesAtDepth(Integer.MIN_VALUE));
        bad("nodesAtDepth(MAX)", x.nodesAtDepth(Integer.MAX_VALUE));
    }

    private static void nodesAtDepth() {
        Check.part("promise 20");
        countsAre("S=aSS;", 1, 2, 4, 8, 16, 32, 64);
        countsAre(COMB, 1, 2, 2, 3, 3, 4, 4);
        countsAre("S=S;", 1, 0, 0, 0, 0, 0, 0);
        countsAre("S=aFcabFcd;F=Fx;", 1, 2, 2, 1, 0, 0, 0);
        countsAre("S=bbbbbc;", 1, 1, 1, 1, 1, 1, 0);
    }

    private static void wrongBranch() {
        Check.part("promise 21");
        RecursionSchemes x = Check.loaded("S=aSS;0a01;1a22;");
        due("wrongBranch(6)", x.wrongBranch(6), 21);
        due("wrongBranch(2)", x.wrongBranch(2), 21);
        due("wrongBranch(1)", x.wrongBranch(1), NONE);
        due("wrongBranch(0)", x.wrongBranch(0), NONE);
        bad("wrongBranch(7)", x.wrongBranch(7));
        bad("wrongBranch(-1)", x.wrongBranch(-1));
        bad("wrongBranch(MIN)", x.wrongBranch(Integer.MIN_VALUE));
        due("removeTransition(0, 0)", x.removeTransition(0, 0), 1);
        due("wrongBranch(0)", x.wrongBranch(0), 0);
        due("wrongBranch(6)", x.wrongBranch(6), 0);
        due("wrongBranch(6)", Check.loaded("S=bbbbbbc;0b0;").wrongBranch(6), 111111);
        due("wrongBranch(5)", Check.loaded("S=bbbbbbc;0b0;").wrongBranch(5), NONE);
        due("wrongBranch(6)", Check.loaded("S=bbbbbbbc;0b0;").wrongBranch(6), NONE);
        due("wrongBranch(6)", Check.loaded("S=aSc;0a00;").wrongBranch(6), 2);
        due("wrongBranch(6)", Check.loaded("S=acS;0a10;1a00;").wrongBranch(6), 1);
        due("wrongBranch(6)", Check.loaded("S=aFcd;F=Fx;0a00;0d;").wrongBranch(6), NONE);
        due("wrongBranch(6)", Check.loaded("S=aFcd;F=Fx;0a00;").wrongBranch(6), 2);
    }

    private static void accepts() {
        Check.part("promise 22");
        due("accepts()", new RecursionSchemes().accepts(), 0);
        due("accepts()", Check.loaded("0c;").accepts(), 1);
        due("accepts()", Check.loaded("1c;2c;").accepts(), 0);
        RecursionSchemes x = Check.loaded(COMB);
        due("accepts()", x.accepts(), 1);
        due("removeTransition(1, 2)", x.removeTransition(1, 2), 2);
        due("accepts()", x.accepts(), 0);
        due("undo()", x.undo(), 0);
        due("accepts()", x.accepts(), 1);
        // A dropped argument and a body that is not reached may be wrong.
        due("accepts()", Check.loaded("S=Fd;F=c;G=d;0c;").accepts(), 1);
        // The same argument is read in two states.
        due("accepts()", Check.loaded("S=Fd;F=axx;0a12;1d;").accepts(), 0);
        due("accepts()", Check.loaded("S=Fd;F=axx;0a12;1d;2d;").accepts(), 1);
        // State 0 reads two b in a row, so the parity of the teeth of a comb decides.
        due("accepts()", Check.loaded("S=Fc;F=axFbbx;0a10;1b2;2b1;1c;").accepts(), 1);
        due("accepts()", Check.loaded("S=Fc;F=axFbx;0a10;1b2;2b1;1c;").accepts(), 0);
    }

    private static void acceptsWithoutLimits() {
        Check.part("promise 22, without the limits");
        // The wrong node lies behind 41 expansions.
        RecursionSchemes x = Check.loaded("S=" + times("F", 20) + "d;F=Gx;G=x;0c;");
        due("labelAt(0)", x.labelAt(0), UNDEFINED);
        due("wrongBranch(6)", x.wrongBranch(6), NONE);
        due("accepts()", x.accepts(), 0);
        due("setTransition(0, 3, 0, 0)", x.setTransition(0, 3, 0, 0), 0);
        due("accepts()", x.accepts(), 1);
        // It lies deeper than 6.
        x = Check.loaded("S=bbbbbbbc;0b0;");
        due("wrongBranch(6)", x.wrongBranch(6), NONE);
        due("accepts()", x.accepts(), 0);
        // The terms would have more than 200 symbols.
        x = Check.loaded("S=F" + times("b", 26) + "c;F=bbbbbb" + times("ax", 6) + "x;0b0;0a00;");
        due("wrongBranch(6)", x.wrongBranch(6), NONE);
        due("accepts()", x.accepts(), 0);
        // An evaluation that never ends has no wrong node.
        due("accepts()", Check.loaded("S=S;").accepts(), 1);
        due("accepts()", Check.loaded("S=Fd;F=GFx;G=Gx;").accepts(), 1);
        due("accepts()", Check.loaded("S=Hcd;H=HHxyHyx;").accepts(), 1);
    }

    private static void rounds() {
        Check.part("promise 23");
        due("rounds()", new RecursionSchemes().rounds(), 2);
        due("rounds()", Check.loaded("S=S;F=Fx;G=Gx;H=Hxy;").rounds(), 1);
        due("rounds()", Check.loaded("S=Fc;F=Gx;G=Hxx;H=d;").rounds(), 5);
        due("rounds()", Check.loaded("S=c;F=S;G=Fx;H=Gx;").rounds(), 5);
        due("rounds()", Check.loaded("S=c;F=c;G=c;H=c;0c;1c;2c;").rounds(), 1);
        due("rounds()", Check.loaded("S=bS;0b1;1b2;F=Fx;G=Gx;H=Hxy;").rounds(), 4);
        RecursionSchemes x = Check.loaded(COMB);
        due("rounds()", x.rounds(), 3);
        due("removeTransition(1, 2)", x.removeTransition(1, 2), 2);
        due("rounds()", x.rounds(), 3);
        due("accepts()", x.accepts(), 0);
    }

    private static void countsOfTypings(String setup, int... counts) {
        RecursionSchemes x = Check.loaded(setup);
        for (int n = 0; n < 4; n++) {
            due("typingCount(" + n + ") of " + setup, x.typingCount(n), counts[n]);
        }
        noSuch("typingCount(4)", x.typingCount(4));
        noSuch("typingCount(-1)", x.typingCount(-1));
        noSuch("typingCount(MIN)", x.typingCount(Integer.MIN_VALUE));
    }

    private static void typingCount() {
        Check.part("promise 24");
        countsOfTypings("", 0, 0, 0, 0);
        countsOfTypings("0c;1c;2c;", 3, 24, 24, 192);
        countsOfTypings("S=S;F=Fx;G=Gx;H=Hxy;", 3, 24, 24, 192);
        countsOfTypings(COMB, 1, 4, 8, 64);
        countsOfTypings("0c;2c;", 2, 16, 16, 128);
        countsOfTypings("F=x;G=bx;H=y;0b1;", 0, 12, 4, 96);
        countsOfTypings("S=d;F=c;G=axx;H=axy;0a12;1a00;2d;", 1, 0, 6, 32);
    }

    private static void isValid() {
        Check.part("promise 25");
        RecursionSchemes x = Check.loaded("S=bS;F=bx;H=axy;0b0;1b2;0a12;2a11;");
        due("isValid(0, 0, 0, 0)", x.isValid(0, 0, 0, 0), 1);
        due("isValid(0, 1, 0, 0)", x.isValid(0, 1, 0, 0), 0);
        for (int s1 = 0; s1 < 8; s1++) {
            due("isValid(1, 0, s1, 0)", x.isValid(1, 0, s1, 0), s1 & 1);
            due("isValid(1, 1, s1, 0)", x.isValid(1, 1, s1, 0), s1 >> 2 & 1);
            due("isValid(1, 2, s1, 0)", x.isValid(1, 2, s1, 0), 0);
            for (int s2 = 0; s2 < 8; s2++) {
                due("isValid(3, 0, s1, s2)", x.isValid(3, 0, s1, s2), s1 >> 1 & s2 >> 2 & 1);
                due("isValid(3, 1, s1, s2)", x.isValid(3, 1, s1, s2), 0);
                due("isValid(3, 2, s1, s2)", x.isValid(3, 2, s1, s2), s1 >> 1 & s2 >> 1 & 1);
            }
        }
        bad("isValid(0, 0, 1, 0)", x.isValid(0, 0, 1, 0));
        bad("isValid(0, 0, 0, 1)", x.isValid(0, 0, 0, 1));
        bad("isValid(0, 0, -1, 0)", x.isValid(0, 0, -1, 0));
        bad("isValid(1, 0, 8, 0)", x.isValid(1, 0, 8, 0));
        bad("isValid(1, 0, -1, 0)", x.isValid(1, 0, -1, 0));
        bad("isValid(1, 0, 1, 1)", x.isValid(1, 0, 1, 1));
        bad("isValid(2, 0, 1, 7)", x.isValid(2, 0, 1, 7));
        bad("isValid(3, 0, 8, 0)", x.isValid(3, 0, 8, 0));
        bad("isValid(3, 0, 0, 8)", x.isValid(3, 0, 0, 8));
        bad("isValid(3, 0, 0, -1)", x.isValid(3, 0, 0, -1));
        noSuch("isValid(4, 0, 9, 0)", x.isValid(4, 0, 9, 0));
        noSuch("isValid(-1, 0, 0, 0)", x.isValid(-1, 0, 0, 0));
        noSuch("isValid(0, 3, 9, 9)", x.isValid(0, 3, 9, 9));
        noSuch("isValid(0, -1, 0, 0)", x.isValid(0, -1, 0, 0));
    }

    private static void demand() {
        Check.part("promise 26");
        RecursionSchemes x = Check.loaded("F=axbx;G=Gx;H=axy;0a12;1b0;2b2;2a00;");
        due("demand(1, 0, 1)", x.demand(1, 0, 1), 6);
        due("demand(1, 1, 1)", x.demand(1, 1, 1), NONE);
        due("demand(1, 2, 1)", x.demand(1, 2, 1), NONE);
        due("demand(2, 1, 1)", x.demand(2, 1, 1), 0);
        due("demand(3, 0, 1)", x.demand(3, 0, 1), 2);
        due("demand(3, 0, 2)", x.demand(3, 0, 2), 4);
        due("demand(3, 1, 2)", x.demand(3, 1, 2), NONE);
        due("demand(3, 2, 1)", x.demand(3, 2, 1), 1);
        due("demand(3, 2, 2)", x.demand(3, 2, 2), 1);
        bad("demand(0, 0, 1)", x.demand(0, 0, 1));
        bad("demand(1, 0, 0)", x.demand(1, 0, 0));
        bad("demand(1, 0, 2)", x.demand(1, 0, 2));
        bad("demand(1, 1, 2)", x.demand(1, 1, 2));
        bad("demand(3, 0, 0)", x.demand(3, 0, 0));
        bad("demand(3, 0, 3)", x.demand(3, 0, 3));
        bad("demand(3, 0, -1)", x.demand(3, 0, -1));
        noSuch("demand(4, 0, 9)", x.demand(4, 0, 9));
        noSuch("demand(-1, 0, 1)", x.demand(-1, 0, 1));
        noSuch("demand(3, 3, 3)", x.demand(3, 3, 3));
        noSuch("demand(3, -1, 1)", x.demand(3, -1, 1));
    }

    private static void runScript() {
        Check.part("promise 27");
        RecursionSchemes x = Check.loaded("S=S;F=Fx;G=Gx;H=Hxy;");
        bad("runScript(0, 0)", x.runScript(0, 0L));
        bad("runScript(5, 3001)", x.runScript(5, 3001L));
        bad("runScript(-1, 3001)", x.runScript(-1, 3001L));
        bad("runScript(MIN, 0)", x.runScript(Integer.MIN_VALUE, 0L));
        bad("runScript(1, -1)", x.runScript(1, -1L));
        bad("runScript(4, MIN)", x.runScript(4, Long.MIN_VALUE));
        bad("runScript(4, MAX)", x.runScript(4, Long.MAX_VALUE));
        bad("runScript(1, 10000)", x.runScript(1, 10000L));
        bad("runScript(2, 100000000)", x.runScript(2, 100000000L));
        bad("runScript(3, 10^12)", x.runScript(3, 1000000000000L));
        bad("runScript(4, 10^16)", x.runScript(4, 10000000000000000L));
        due("runScript(1, 9999)", x.runScript(1, 9999L), 0);
        due("runScript(4, 10^16 - 1)", x.runScript(4, 9999999999999999L), 0);
        due("runScript(1, 0)", x.runScript(1, 0L), 0);
        due("runScript(1, 3001)", x.runScript(1, 3001L), NONE);
        due("runScript(2, 3001)", x.runScript(2, 3001L), 0);
        due("runScript(2, 30013000)", x.runScript(2, 30013000L), 1);
        due("runScript(3, ..)", x.runScript(3, 300160013000L), 2);
        due("runScript(4, ..)", x.runScript(4, 3001600150016002L), 3);
        due("runScript(4, ..)", x.runScript(4, 3001600150014003L), NONE);
        due("runScript(4, ..)", x.runScript(4, 3001700030000000L), 1);
        for (int other = 7000; other <= 9999; other += 137) {
            due("runScript(1, " + other + ")", x.runScript(1, other), 0);
        }
        for (int other = 1; other <= 999; other += 37) {
            due("runScript(1, " + other + ")", x.runScript(1, other), 0);
        }
    }

    private static void runScriptOnTransitions() {
        Check.part("promise 27, commands 1 and 2");
        RecursionSchemes x = Check.loaded("S=bS;0b1;2d;");
        due("runScript(1, 1010)", x.runScript(1, 1010L), NONE);
        due("hasTransition(0, 1)", x.hasTransition(0, 1), 1);
        due("runScript(2, 10101010)", x.runScript(2, 10101010L), 1);
        due("runScript(1, 1230)", x.runScript(1, 1230L), NONE);
        due("runScript(1, 1110)", x.runScript(1, 1110L), 0);
        due("runScript(1, 1011)", x.runScript(1, 1011L), 0);
        due("runScript(1, 1310)", x.runScript(1, 1310L), 0);
        due("runScript(1, 1040)", x.runScript(1, 1040L), 0);
        due("runScript(1, 1240)", x.runScript(1, 1240L), 0);
        due("runScript(3, 300021103001)", x.runScript(3, 300021103001L), NONE);
        due("accepts()", x.accepts(), 0);
        due("hasTransition(1, 1)", x.hasTransition(1, 1), 0);
        due("undo()", x.undo(), NOT_POSSIBLE);
        due("runScript(2, 20003001)", x.runScript(2, 20003001L), NONE);
        due("runScript(2, 20203001)", x.runScript(2, 20203001L), 1);
        due("runScript(3, 202022203001)", x.runScript(3, 202022203001L), NONE);
        due("runScript(2, 21101110)", x.runScript(2, 21101110L), NONE);
        due("runScript(1, 2001)", x.runScript(1, 2001L), 0);
        due("runScript(1, 2030)", x.runScript(1, 2030L), 0);
        due("runScript(1, 2300)", x.runScript(1, 2300L), 0);
        due("transition(0, 1, 1)", x.transition(0, 1, 1), 1);
        due("runScript(1, 3001), from the beginning", x.runScript(1, 3001L), 0);
    }

    private static void runScriptOnChecks() {
        Check.part("promise 27, commands 3 to 6");
        RecursionSchemes x = Check.loaded("S=aSS;F=x;H=Hxy;0a00;");
        due("runScript(1, 3001)", x.runScript(1, 3001L), NONE);
        due("runScript(1, 3000)", x.runScript(1, 3000L), 0);
        due("runScript(1, 3002)", x.runScript(1, 3002L), 0);
        due("runScript(1, 3101)", x.runScript(1, 3101L), 0);
        due("runScript(1, 3011)", x.runScript(1, 3011L), 0);
        due("runScript(2, 10003000)", x.runScript(2, 10003000L), NONE);
        due("runScript(1, 4001)", x.runScript(1, 4001L), NONE);
        due("runScript(1, 4112)", x.runScript(1, 4112L), NONE);
        due("runScript(1, 4200)", x.runScript(1, 4200L), NONE);
        due("runScript(1, 4392), with 192", x.runScript(1, 4392L), 0);
        due("runScript(1, 4400)", x.runScript(1, 4400L), 0);
        due("runScript(1, 4900)", x.runScript(1, 4900L), 0);
        due("runScript(4, ..)", x.runScript(4, 5001510252045308L), NONE);
        due("runScript(3, ..)", x.runScript(3, 541655325664L), NONE);
        due("runScript(1, 5700)", x.runScript(1, 5700L), 0);
        due("runScript(1, 5663)", x.runScript(1, 5663L), 0);
        due("runScript(2, 10005664)", x.runScript(2, 10005664L), NONE);
        int rounds = x.rounds();
        due("runScript(1, 6000 + rounds)", x.runScript(1, 6000 + rounds), NONE);
        due("runScript(1, 6001 + rounds)", x.runScript(1, 6001 + rounds), 0);
        due("runScript(1, 6100 + rounds)", x.runScript(1, 6100 + rounds), 0);
    }

    private static void descend() {
        Check.part("promise 28");
        RecursionSchemes x = Check.loaded("S=bS;");
        due("descend(1, 1)", x.descend(1L, 1), 6);
        due("descend(1, 30)", x.descend(1L, 30), 180);
        bad("descend(1, 0)", x.descend(1L, 0));
        bad("descend(1, 31)", x.descend(1L, 31));
        bad("descend(1, -1)", x.descend(1L, -1));
        bad("descend(1, MIN)", x.descend(1L, Integer.MIN_VALUE));
        due("descend(7, 30)", new RecursionSchemes().descend(7L, 30), 0);
        due("descend(7, 30)", Check.loaded("S=S;").descend(7L, 30), 0);
        due("descend(7, 30)", Check.loaded("S=bFc;F=Fx;").descend(7L, 30), 30);
        due("descend(7, 30)", Check.loaded("S=aSS;").descend(7L, 30), 180);
        long[] seeds = {0L, 1L, 5L, -1L, 123456789012345L, Long.MIN_VALUE, Long.MAX_VALUE};
        RecursionSchemes left = Check.loaded("S=aSc;");
        RecursionSchemes right = Check.loaded("S=acbS;");
        for (long seed : seeds) {
            for (int m = 1; m <= 30; m++) {
                due("descend(" + seed + ", " + m + ") in aSc", left.descend(seed, m), depths(seed, m, 1, 1));
                due("descend(" + seed + ", " + m + ") in acbS", right.descend(seed, m), depths(seed, m, 2, 2));
            }
        }
    }

    /** The sum of the depths where one child of each a goes on, to the next a some steps below. */
    private static int depths(long seed, int m, int goingOn, int steps) {
        long z = seed;
        int sum = 0;
        for (int i = 0; i < m; i++) {
            int depth = 0;
            boolean open = true;
            while (open && depth < 6) {
                z = z * 6364136223846793005L + 1442695040888963407L;
                boolean choice = depth % steps == 0;
                open = !choice || 1 + (int) (z >>> 33) % 2 == goingOn;
                depth++;
            }
            sum += depth;
        }
        return sum;
    }

    private static void save() {
        Check.part("promise 29");
        RecursionSchemes x = Check.loaded(COMB);
        due("save(0)", x.save(0), 3);
        noSuch("save(2)", x.save(2));
        noSuch("save(-1)", x.save(-1));
        noSuch("save(MAX)", x.save(Integer.MAX_VALUE));
        due("restore(1)", x.restore(1), NOT_POSSIBLE);
        due("removeTransition(0, 0)", x.removeTransition(0, 0), 2);
        due("save(1)", x.save(1), 2);
        due("undo(), save is no action", x.undo(), 0);
        due("restore(1)", x.restore(1), 2);
        due("restore(0)", x.restore(0), 3);
        due("exchange()", x.exchange(), 2);
        due("save(0), anew", x.save(0), 3);
        due("undo()", x.undo(), 0);
        Check.bodyIs(x, 0, "Fc");
        due("restore(0)", x.restore(0), 3);
        Check.bodyIs(x, 0, "Gc");
        due("save(0) of a new object", new RecursionSchemes().save(0), 0);
    }

    private static void restore() {
        Check.part("promise 30");
        RecursionSchemes x = Check.loaded(COMB);
        noSuch("restore(2)", x.restore(2));
        noSuch("restore(-1)", x.restore(-1));
        noSuch("restore(MIN)", x.restore(Integer.MIN_VALUE));
        due("exchange()", x.exchange(), 2);
        due("restore(0)", x.restore(0), NOT_POSSIBLE);
        due("undo(), it is remembered", x.undo(), 0);
        due("save(0)", x.save(0), 3);
        for (int time = 0; time < 3; time++) {
            due("exchange()", x.exchange(), 2);
            due("removeTransition(1, 2)", x.removeTransition(1, 2), 2);
            due("accepts()", x.accepts(), 0);
            due("labelAt(21)", x.labelAt(21), 'b');
            due("restore(0)", x.restore(0), 3);
            due("undo()", x.undo(), NOT_POSSIBLE);
            Check.bodyIs(x, 0, "Fc");
            Check.bodyIs(x, 1, "axFbx");
            due("accepts()", x.accepts(), 1);
            due("stateAt(21)", x.stateAt(21), 1);
        }
        due("clearText(), the text is kept", x.clearText(), COMB.length());
        due("restore(0)", x.restore(0), 3);
    }
}
