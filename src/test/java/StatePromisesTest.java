/** The promises 1 to 16, each by itself: ordinary inputs, the edges the document names, wrong inputs. */
public final class StatePromisesTest {
    private static final int NO_SUCH_INDEX = -1;
    private static final int BAD_VALUE = -2;
    private static final int NOT_POSSIBLE = -3;
    private static final int FULL = -4;
    private static final int NONE = -9;

    /** A binary tree whose left branches lead to c; accepted, with F of a demand. */
    private static final String COMB = "S=Fc;F=axFbx;0a10;1b1;1c;";

    private StatePromisesTest() {
    }

    public static void main(String[] args) {
        newObject();
        append();
        clearText();
        errorPosition();
        errorPositionInBodies();
        load();
        bodyLength();
        bodySymbol();
        transition();
        hasTransition();
        reachable();
        setBody();
        setTransition();
        removeTransition();
        inline();
        inlineAtTheLimit();
        exchange();
        undo();
        undoAndErrors();
        Check.finish();
    }

    private static void due(String call, long got, long want) {
        Check.due(call, got, want);
    }

    private static String times(String symbols, int count) {
        return symbols.repeat(count);
    }

    private static void errorAt(String text, int want) {
        RecursionSchemes x = new RecursionSchemes();
        Check.write(x, text);
        due("errorPosition() of " + text, x.errorPosition(), want);
        due("load() of " + text, x.load() >= 0 ? 1 : x.load(), want == NONE ? 1 : NOT_POSSIBLE);
    }

    private static void isNew(RecursionSchemes x) {
        for (int n = 0; n < 4; n++) {
            Check.bodyIs(x, n, "c");
        }
        for (int q = 0; q < 3; q++) {
            for (int t = 0; t < 4; t++) {
                due("hasTransition", x.hasTransition(q, t), 0);
            }
        }
    }

    private static void newObject() {
        Check.part("promise 1");
        RecursionSchemes x = new RecursionSchemes();
        isNew(x);
        due("clearText()", x.clearText(), 0);
        due("undo()", x.undo(), NOT_POSSIBLE);
        due("restore(0)", x.restore(0), NOT_POSSIBLE);
        due("restore(1)", x.restore(1), NOT_POSSIBLE);
        due("labelAt(0)", x.labelAt(0), 'c');
        RecursionSchemes other = Check.loaded(COMB);
        isNew(x);
        due("hasTransition(0, 0) of the other", other.hasTransition(0, 0), 1);
    }

    private static void append() {
        Check.part("promise 2");
        RecursionSchemes x = new RecursionSchemes();
        due("append(0)", x.append(0), 1);
        due("append(255)", x.append(255), 2);
        due("append(256)", x.append(256), BAD_VALUE);
        due("append(-1)", x.append(-1), BAD_VALUE);
        due("append(MAX)", x.append(Integer.MAX_VALUE), BAD_VALUE);
        due("append(MIN)", x.append(Integer.MIN_VALUE), BAD_VALUE);
        for (int length = 3; length <= 99; length++) {
            due("append(83)", x.append(83), length);
        }
        due("append(83) to 99", x.append(83), FULL);
        due("append(256) to 99", x.append(256), BAD_VALUE);
        due("clearText()", x.clearText(), 99);
        due("append(83)", x.append(83), 1);
    }

    private static void clearText() {
        Check.part("promise 3");
        RecursionSchemes x = new RecursionSchemes();
        due("clearText()", x.clearText(), 0);
        Check.write(x, "S=q");
        due("errorPosition()", x.errorPosition(), 2);
        due("clearText()", x.clearText(), 3);
        due("errorPosition()", x.errorPosition(), NONE);
        due("clearText()", x.clearText(), 0);
        Check.write(x, "c");
        due("setBody(0)", x.setBody(0), 1);
        due("clearText()", x.clearText(), 1);
        due("setBody(0) without a text", x.setBody(0), NOT_POSSIBLE);
        Check.bodyIs(x, 0, "c");
    }

    private static void errorPosition() {
        Check.part("promise 4");
        errorAt("", NONE);
        errorAt(";", 0);
        errorAt("S", 1);
        errorAt("S;", 1);
        errorAt("S=", 2);
        errorAt("S=;", 2);
        errorAt("S=c", 3);
        errorAt("S=c;", NONE);
        errorAt("S=c;;", 4);
        errorAt("S=c; ", 4);
        errorAt("s=c;", 0);
        errorAt("a=c;", 0);
        errorAt("x=c;", 0);
        errorAt("3c;", 0);
        errorAt("0", 1);
        errorAt("0=", 1);
        errorAt("0S", 1);
        errorAt("0x", 1);
        errorAt("0a01;1b2;2c;2d;", NONE);
        errorAt("0a;", 2);
        errorAt("0a0;", 3);
        errorAt("0a03", 3);
        errorAt("0a01", 4);
        errorAt("0a012;", 4);
        errorAt("0b;", 2);
        errorAt("0b12", 3);
        errorAt("0c0;", 2);
        errorAt("0d0;", 2);
        errorAt("0c", 2);
        errorAt("0c;S=c;1", 8);
        errorAt("0c;S=c;1?", 8);
        errorAt("S=c" + (char) 0, 3);
        errorAt("" + (char) 255, 0);
        errorAt(times("0c;", 33), NONE);
        errorAt(times("0c;", 32) + "0a0", 99);
        RecursionSchemes x = Check.loaded(COMB);
        Check.write(x, "S=d;0d");
        due("errorPosition()", x.errorPosition(), 6);
        Check.bodyIs(x, 0, "Fc");
        due("hasTransition(0, 3)", x.hasTransition(0, 3), 0);
    }

    private static void errorPositionInBodies() {
        Check.part("promise 4, bodies");
        errorAt("S=x;", 2);
        errorAt("S=y;", 2);
        errorAt("S=ax", 3);
        errorAt("F=x;G=x;H=x;H=y;H=axy;", NONE);
        errorAt("F=y;", 2);
        errorAt("G=axy;", 4);
        errorAt("S=cc;", 3);
        errorAt("S=acbFdc;", 7);
        errorAt("S=Fx", 3);
        errorAt("S=HcHcc;", NONE);
        errorAt("S=Hc;", 4);
        errorAt("S=b;", 3);
        errorAt("S=b=", 3);
        errorAt("S=" + times("b", 29) + "c;", NONE);
        errorAt("S=" + times("b", 30), 32);
        errorAt("S=" + times("b", 30) + "c;", 32);
        errorAt("S=" + times("b", 30) + ";", 32);
        errorAt("0c;S=" + times("b", 30) + "c;", 35);
        errorAt("S=" + times("ac", 14) + "bc;", NONE);
        errorAt("S=" + times("ac", 15) + "c;", 32);
    }

    private static void load() {
        Check.part("promise 5");
        RecursionSchemes x = Check.loaded(COMB);
        due("load()", x.load(), 3);
        Check.bodyIs(x, 0, "Fc");
        Check.bodyIs(x, 1, "axFbx");
        Check.bodyIs(x, 2, "c");
        due("clearText()", x.clearText(), COMB.length());
        due("load() of nothing", x.load(), 0);
        isNew(x);

        x = Check.loaded("S=c;S=d;0a12;0b0;0a21;0c;0c;S=bc;");
        due("load()", x.load(), 3);
        Check.bodyIs(x, 0, "bc");
        due("transition(0, 0, 1)", x.transition(0, 0, 1), 2);
        due("transition(0, 0, 2)", x.transition(0, 0, 2), 1);

        due("save(0)", x.save(0), 3);
        due("save(1)", x.save(1), 3);
        due("exchange()", x.exchange(), 0);
        Check.write(x, "S=d;0d");
        due("load() of a part", x.load(), NOT_POSSIBLE);
        Check.bodyIs(x, 0, "bc");
        due("restore(0)", x.restore(0), 3);
        due("exchange()", x.exchange(), 0);
        due("exchange()", x.exchange(), 0);
        due("undo()", x.undo(), 1);
        x.append(';');
        due("load()", x.load(), 1);
        Check.bodyIs(x, 0, "d");
        due("undo()", x.undo(), NOT_POSSIBLE);
        due("restore(0)", x.restore(0), NOT_POSSIBLE);
        due("restore(1)", x.restore(1), NOT_POSSIBLE);
        due("clearText()", x.clearText(), 7);
        Check.loaded("0a00;1a00;2a00;0b0;1b0;2b0;0c;1c;2c;0d;1d;2d;");
    }

    private static void bodyLength() {
        Check.part("promise 6");
        RecursionSchemes x = Check.loaded("S=" + times("b", 29) + "c;F=axx;H=Hyx;");
        due("bodyLength(0)", x.bodyLength(0), 30);
        due("bodyLength(1)", x.bodyLength(1), 3);
        due("bodyLength(2)", x.bodyLength(2), 1);
        due("bodyLength(3)", x.bodyLength(3), 3);
        due("bodyLength(4)", x.bodyLength(4), NO_SUCH_INDEX);
        due("bodyLength(-1)", x.bodyLength(-1), NO_SUCH_INDEX);
        due("bodyLength(MIN)", x.bodyLength(Integer.MIN_VALUE), NO_SUCH_INDEX);
        due("bodyLength(MAX)", x.bodyLength(Integer.MAX_VALUE), NO_SUCH_INDEX);
    }

    private static void bodySymbol() {
        Check.part("promise 7");
        String body = "abcHdaSHFxGy";
        RecursionSchemes x = Check.loaded("H=" + body + ";");
        for (int i = 0; i < body.length(); i++) {
            due("bodySymbol(3, " + i + ")", x.bodySymbol(3, i), body.charAt(i));
        }
        due("bodySymbol(3, 12)", x.bodySymbol(3, 12), NO_SUCH_INDEX);
        due("bodySymbol(3, -1)", x.bodySymbol(3, -1), NO_SUCH_INDEX);
        due("bodySymbol(3, MIN)", x.bodySymbol(3, Integer.MIN_VALUE), NO_SUCH_INDEX);
        due("bodySymbol(3, MAX)", x.bodySymbol(3, Integer.MAX_VALUE), NO_SUCH_INDEX);
        due("bodySymbol(4, 0)", x.bodySymbol(4, 0), NO_SUCH_INDEX);
        due("bodySymbol(-1, 0)", x.bodySymbol(-1, 0), NO_SUCH_INDEX);
        due("bodySymbol(0, 1)", x.bodySymbol(0, 1), NO_SUCH_INDEX);
    }

    private static void transition() {
        Check.part("promise 8");
        RecursionSchemes x = Check.loaded("0a12;1b2;2c;2d;");
        due("transition(0, 0, 1)", x.transition(0, 0, 1), 1);
        due("transition(0, 0, 2)", x.transition(0, 0, 2), 2);
        due("transition(0, 0, 0)", x.transition(0, 0, 0), BAD_VALUE);
        due("transition(0, 0, 3)", x.transition(0, 0, 3), BAD_VALUE);
        due("transition(1, 1, 1)", x.transition(1, 1, 1), 2);
        due("transition(1, 1, 2)", x.transition(1, 1, 2), BAD_VALUE);
        due("transition(2, 2, 1)", x.transition(2, 2, 1), BAD_VALUE);
        due("transition(2, 3, 1)", x.transition(2, 3, 1), BAD_VALUE);
        due("transition(2, 3, 0)", x.transition(2, 3, 0), BAD_VALUE);
        due("transition(1, 0, 2)", x.transition(1, 0, 2), NONE);
        due("transition(0, 1, 2)", x.transition(0, 1, 2), BAD_VALUE);
        due("transition(3, 0, 5)", x.transition(3, 0, 5), NO_SUCH_INDEX);
        due("transition(-1, 0, 1)", x.transition(-1, 0, 1), NO_SUCH_INDEX);
        due("transition(0, 4, 1)", x.transition(0, 4, 1), NO_SUCH_INDEX);
        due("transition(0, -1, 1)", x.transition(0, -1, 1), NO_SUCH_INDEX);
        due("transition(0, 0, MIN)", x.transition(0, 0, Integer.MIN_VALUE), BAD_VALUE);
    }

    private static void hasTransition() {
        Check.part("promise 9");
        RecursionSchemes x = Check.loaded("0a00;1b0;2c;1d;");
        String there = "00 11 22 13";
        for (int q = 0; q < 3; q++) {
            for (int t = 0; t < 4; t++) {
                due("hasTransition(" + q + ", " + t + ")", x.hasTransition(q, t), there.contains("" + q + t) ? 1 : 0);
            }
        }
        due("hasTransition(3, 0)", x.hasTransition(3, 0), NO_SUCH_INDEX);
        due("hasTransition(-1, 0)", x.hasTransition(-1, 0), NO_SUCH_INDEX);
        due("hasTransition(0, 4)", x.hasTransition(0, 4), NO_SUCH_INDEX);
        due("hasTransition(0, -1)", x.hasTransition(0, -1), NO_SUCH_INDEX);
    }

    private static void reachable() {
        Check.part("promise 10");
        due("reachable()", new RecursionSchemes().reachable(), 1);
        due("reachable()", Check.loaded("F=S;G=HSS;").reachable(), 1);
        due("reachable()", Check.loaded("S=S;").reachable(), 1);
        due("reachable()", Check.loaded("S=bGc;").reachable(), 5);
        due("reachable()", Check.loaded("S=aFcGc;").reachable(), 7);
        due("reachable()", Check.loaded("S=HFcGd;").reachable(), 15);
        due("reachable()", Check.loaded("S=Hcc;H=Gx;G=Fx;").reachable(), 15);
        due("reachable()", Check.loaded("S=Fc;F=Gx;G=Hxx;").reachable(), 15);
        due("reachable()", Check.loaded("S=Hcc;H=Fx;F=Fx;G=Fx;").reachable(), 11);
    }

    private static void setBody() {
        Check.part("promise 11");
        RecursionSchemes x = new RecursionSchemes();
        Check.write(x, "aFdbx");
        due("setBody(0)", x.setBody(0), NOT_POSSIBLE);
        due("setBody(1)", x.setBody(1), 5);
        due("setBody(2)", x.setBody(2), 5);
        due("setBody(3)", x.setBody(3), 5);
        due("setBody(4)", x.setBody(4), NO_SUCH_INDEX);
        due("setBody(-1)", x.setBody(-1), NO_SUCH_INDEX);
        Check.bodyIs(x, 0, "c");
        Check.bodyIs(x, 1, "aFdbx");
        Check.bodyIs(x, 3, "aFdbx");
        Check.write(x, "Hyx");
        due("setBody(2)", x.setBody(2), NOT_POSSIBLE);
        due("setBody(3)", x.setBody(3), 3);
        String[] bad = {"", "a", "ac", "cc", "c;", "S=c;", "0c;", "q", "bb", times("b", 30) + "c"};
        for (String text : bad) {
            Check.write(x, text);
            due("setBody(0) of " + text, x.setBody(0), NOT_POSSIBLE);
            due("setBody(4) of " + text, x.setBody(4), NO_SUCH_INDEX);
        }
        due("undo()", x.undo(), 3);
        due("undo()", x.undo(), 2);
        Check.bodyIs(x, 3, "c");
        Check.write(x, times("b", 29) + "d");
        due("setBody(0)", x.setBody(0), 30);
        Check.bodyIs(x, 0, times("b", 29) + "d");
        due("clearText()", x.clearText(), 30);
        due("labelAt(111111)", x.labelAt(111111), 'b');
    }

    private static void setTransition() {
        Check.part("promise 12");
        RecursionSchemes x = new RecursionSchemes();
        due("setTransition(0, 0, 1, 2)", x.setTransition(0, 0, 1, 2), 0);
        due("setTransition(0, 0, 2, 1)", x.setTransition(0, 0, 2, 1), 1);
        due("transition(0, 0, 1)", x.transition(0, 0, 1), 2);
        due("transition(0, 0, 2)", x.transition(0, 0, 2), 1);
        due("setTransition(0, 0, 3, 0)", x.setTransition(0, 0, 3, 0), BAD_VALUE);
        due("setTransition(0, 0, 0, 3)", x.setTransition(0, 0, 0, 3), BAD_VALUE);
        due("setTransition(0, 0, -1, 0)", x.setTransition(0, 0, -1, 0), BAD_VALUE);
        due("setTransition(0, 0, 0, -1)", x.setTransition(0, 0, 0, -1), BAD_VALUE);
        due("setTransition(1, 1, 2, 0)", x.setTransition(1, 1, 2, 0), 0);
        due("setTransition(1, 1, 2, 1)", x.setTransition(1, 1, 2, 1), BAD_VALUE);
        due("setTransition(1, 1, 3, 0)", x.setTransition(1, 1, 3, 0), BAD_VALUE);
        due("setTransition(2, 2, 0, 0)", x.setTransition(2, 2, 0, 0), 0);
        due("setTransition(2, 2, 0, 0)", x.setTransition(2, 2, 0, 0), 1);
        due("setTransition(2, 2, 1, 0)", x.setTransition(2, 2, 1, 0), BAD_VALUE);
        due("setTransition(2, 2, 0, 1)", x.setTransition(2, 2, 0, 1), BAD_VALUE);
        due("setTransition(2, 3, 1, 0)", x.setTransition(2, 3, 1, 0), BAD_VALUE);
        due("setTransition(3, 2, 1, 1)", x.setTransition(3, 2, 1, 1), NO_SUCH_INDEX);
        due("setTransition(-1, 2, 1, 1)", x.setTransition(-1, 2, 1, 1), NO_SUCH_INDEX);
        due("setTransition(0, 4, 0, 0)", x.setTransition(0, 4, 0, 0), NO_SUCH_INDEX);
        due("setTransition(0, -1, 9, 9)", x.setTransition(0, -1, 9, 9), NO_SUCH_INDEX);
        due("undo()", x.undo(), 4);
        due("hasTransition(2, 2)", x.hasTransition(2, 2), 1);
    }

    private static void removeTransition() {
        Check.part("promise 13");
        RecursionSchemes x = Check.loaded("0a12;1b2;2c;");
        due("removeTransition(0, 1)", x.removeTransition(0, 1), NOT_POSSIBLE);
        due("removeTransition(0, 0)", x.removeTransition(0, 0), 2);
        due("removeTransition(0, 0)", x.removeTransition(0, 0), NOT_POSSIBLE);
        due("hasTransition(0, 0)", x.hasTransition(0, 0), 0);
        due("transition(0, 0, 1)", x.transition(0, 0, 1), NONE);
        due("removeTransition(2, 2)", x.removeTransition(2, 2), 1);
        due("removeTransition(3, 1)", x.removeTransition(3, 1), NO_SUCH_INDEX);
        due("removeTransition(-1, 1)", x.removeTransition(-1, 1), NO_SUCH_INDEX);
        due("removeTransition(0, 4)", x.removeTransition(0, 4), NO_SUCH_INDEX);
        due("removeTransition(0, -1)", x.removeTransition(0, -1), NO_SUCH_INDEX);
        due("removeTransition(1, 1)", x.removeTransition(1, 1), 0);
        due("undo()", x.undo(), 2);
        due("transition(1, 1, 1)", x.transition(1, 1, 1), 2);
    }

    private static void inline() {
        Check.part("promise 14");
        RecursionSchemes x = Check.loaded("S=aFdHbcS;F=axbx;H=Hyaxy;");
        due("inline(0, 0)", x.inline(0, 0), NOT_POSSIBLE);
        due("inline(0, 7)", x.inline(0, 7), NO_SUCH_INDEX);
        due("inline(0, -1)", x.inline(0, -1), NO_SUCH_INDEX);
        due("inline(4, 0)", x.inline(4, 0), NO_SUCH_INDEX);
        due("inline(-1, 0)", x.inline(-1, 0), NO_SUCH_INDEX);
        due("inline(1, 1)", x.inline(1, 1), NOT_POSSIBLE);
        due("inline(3, 1)", x.inline(3, 1), NOT_POSSIBLE);
        due("inline(0, 1)", x.inline(0, 1), 9);
        Check.bodyIs(x, 0, "aadbdHbcS");
        due("inline(0, 5)", x.inline(0, 5), 11);
        Check.bodyIs(x, 0, "aadbdHSabcS");
        due("inline(0, 6)", x.inline(0, 6), 21);
        Check.bodyIs(x, 0, "aadbdHaadbdHSabcSabcS");
        due("inline(3, 0)", x.inline(3, 0), 9);
        Check.bodyIs(x, 3, "Haxyayaxy");
        Check.bodyIs(x, 1, "axbx");
        due("undo()", x.undo(), 3);
        Check.bodyIs(x, 3, "Hyaxy");
        x = Check.loaded("F=Gx;");
        due("inline(1, 0)", x.inline(1, 0), 1);
        Check.bodyIs(x, 1, "c");
        x = Check.loaded("S=S;");
        due("inline(0, 0)", x.inline(0, 0), 1);
        Check.bodyIs(x, 0, "S");
        due("undo()", x.undo(), 0);
    }

    private static void inlineAtTheLimit() {
        Check.part("promise 14, the limit");
        String argument = times("b", 13) + "d";
        RecursionSchemes x = Check.loaded("S=F" + argument + ";F=axbx;");
        due("inline to 30", x.inline(0, 0), 30);
        Check.bodyIs(x, 0, "a" + argument + "b" + argument);
        x = Check.loaded("S=bF" + argument + ";F=axbx;");
        due("inline to 31", x.inline(0, 1), FULL);
        Check.bodyIs(x, 0, "bF" + argument);
        due("undo()", x.undo(), NOT_POSSIBLE);
        x = Check.loaded("S=aF" + argument + "c;F=axx;");
        due("inline to 31, by what is behind", x.inline(0, 1), FULL);
        x = Check.loaded("H=H" + times("ax", 13) + "xy;");
        due("inline to far more", x.inline(3, 0), FULL);
        due("inline(3, 1)", x.inline(3, 1), NOT_POSSIBLE);
        due("undo()", x.undo(), NOT_POSSIBLE);
        x = Check.loaded("S=" + times("b", 29) + "S;");
        due("inline to 59", x.inline(0, 29), FULL);
        due("inline(0, 30)", x.inline(0, 30), NO_SUCH_INDEX);
    }

    private static void exchange() {
        Check.part("promise 15");
        RecursionSchemes x = Check.loaded("S=FGc;F=bGFx;G=axFd;H=HGxy;");
        due("exchange()", x.exchange(), 6);
        Check.bodyIs(x, 0, "GFc");
        Check.bodyIs(x, 1, "axGd");
        Check.bodyIs(x, 2, "bFGx");
        Check.bodyIs(x, 3, "HFxy");
        due("exchange()", x.exchange(), 6);
        Check.bodyIs(x, 1, "bGFx");
        due("undo()", x.undo(), 1);
        Check.bodyIs(x, 1, "axGd");
        due("undo()", x.undo(), 0);
        Check.bodyIs(x, 0, "FGc");
        Check.bodyIs(x, 2, "axFd");
        x = Check.loaded("F=bx;G=x;0b1;");
        due("typingCount(1)", x.typingCount(1), 4);
        due("typingCount(2)", x.typingCount(2), 12);
        due("exchange()", x.exchange(), 0);
        due("typingCount(1)", x.typingCount(1), 12);
        due("typingCount(2)", x.typingCount(2), 4);
        x = new RecursionSchemes();
        due("exchange()", x.exchange(), 0);
        due("undo()", x.undo(), 0);
    }

    private static void undo() {
        Check.part("promise 16");
        RecursionSchemes x = new RecursionSchemes();
        due("undo()", x.undo(), NOT_POSSIBLE);
        // 16 actions: the first two are forgotten.
        for (int i = 0; i < 16; i++) {
            String body = times("b", i) + "d";
            Check.write(x, body);
            due("setBody(0)", x.setBody(0), i + 1);
        }
        for (int left = 13; left >= 0; left--) {
            due("undo()", x.undo(), left);
            due("bodyLength(0)", x.bodyLength(0), left + 2);
        }
        due("undo()", x.undo(), NOT_POSSIBLE);
        Check.bodyIs(x, 0, "bd");
        due("exchange()", x.exchange(), 0);
        due("undo()", x.undo(), 0);
        due("clearText()", x.clearText(), 16);
    }

    private static void undoAndErrors() {
        Check.part("promise 16, what is no action");
        RecursionSchemes x = Check.loaded("S=bS;0b0;");
        due("setTransition(0, 1, 0, 0), equal", x.setTransition(0, 1, 0, 0), 1);
        due("setBody(0)", x.setBody(0), NOT_POSSIBLE);
        due("setTransition(0, 1, 3, 0)", x.setTransition(0, 1, 3, 0), BAD_VALUE);
        due("removeTransition(1, 1)", x.removeTransition(1, 1), NOT_POSSIBLE);
        due("inline(0, 0)", x.inline(0, 0), NOT_POSSIBLE);
        due("save(0)", x.save(0), 1);
        due("restore(1)", x.restore(1), NOT_POSSIBLE);
        due("runScript(1, 1010)", x.runScript(1, 1010), NONE);
        due("removeTransition(0, 1)", x.removeTransition(0, 1), 0);
        due("accepts()", x.accepts(), 0);
        due("undo()", x.undo(), 1);
        due("accepts()", x.accepts(), 1);
        due("undo()", x.undo(), 0);
        due("undo()", x.undo(), NOT_POSSIBLE);
        due("restore(0)", x.restore(0), 1);
    }
}
