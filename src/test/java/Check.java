/** Counts the answers that are not the ones that are due, and ends a test. */
final class Check {
    private static int checks = 0;
    private static int wrong = 0;
    private static String part = "";

    private Check() {
    }

    static void part(String name) {
        part = name;
    }

    /** The test that follows is the one of this sentence of the document. */
    static void sentence(String place, String words) {
        part(place + ", \"" + words + "\"");
    }

    static void due(String call, long got, long want) {
        checks++;
        if (got != want) {
            wrong++;
            System.out.println(part + ": " + call + " answered " + got + ", due is " + want);
        }
    }

    static void holds(String what, boolean condition) {
        checks++;
        if (!condition) {
            wrong++;
            System.out.println(part + ": " + what);
        }
    }

    static int count() {
        return checks;
    }

    static int wrongOnes() {
        return wrong;
    }

    static void finish() {
        System.out.println(wrong == 0 ? checks + " checks hold" : wrong + " of " + checks + " checks fail");
        if (wrong != 0) {
            System.exit(1);
        }
    }

    static void bad(String call, int got) {
        due(call, got, RecursionSchemes.BAD_VALUE);
    }

    static void noSuch(String call, int got) {
        due(call, got, RecursionSchemes.NO_SUCH_INDEX);
    }

    static void notPossible(String call, int got) {
        due(call, got, RecursionSchemes.NOT_POSSIBLE);
    }

    static void none(String call, int got) {
        due(call, got, RecursionSchemes.NONE);
    }

    /** What errorPosition answers of a text, and that load fits to it. */
    static void errorAt(String text, int want) {
        RecursionSchemes x = new RecursionSchemes();
        write(x, text);
        due("errorPosition() of " + text, x.errorPosition(), want);
        boolean loads = x.load() != RecursionSchemes.NOT_POSSIBLE;
        holds("load() of " + text + (loads ? " is not" : " is") + " refused",
            loads == (want == RecursionSchemes.NONE));
    }

    /** Puts a new text into the buffer. */
    static void write(RecursionSchemes x, String text) {
        x.clearText();
        for (int i = 0; i < text.length(); i++) {
            x.append(text.charAt(i));
        }
    }

    static RecursionSchemes loaded(String setup) {
        RecursionSchemes x = new RecursionSchemes();
        write(x, setup);
        holds("load of " + setup, x.load() >= 0);
        return x;
    }

    /** The body as a text. */
    static String body(RecursionSchemes x, int n) {
        StringBuilder symbols = new StringBuilder();
        int length = x.bodyLength(n);
        for (int i = 0; i < length; i++) {
            symbols.append((char) x.bodySymbol(n, i));
        }
        return symbols.toString();
    }

    /** The four bodies and the transitions, with their states, as a text. */
    static String state(RecursionSchemes x) {
        StringBuilder all = new StringBuilder();
        for (int n = 0; n < 4; n++) {
            all.append("SFGH".charAt(n)).append('=').append(body(x, n)).append(';');
        }
        for (int q = 0; q < 3; q++) {
            for (int t = 0; t < 4; t++) {
                if (x.hasTransition(q, t) == 1) {
                    all.append(q).append("abcd".charAt(t));
                    for (int child = 1; child <= 2 - t; child++) {
                        all.append(x.transition(q, t, child));
                    }
                    all.append(';');
                }
            }
        }
        return all.toString();
    }

    static void stateIs(RecursionSchemes x, String want) {
        String got = state(x);
        holds("the state is " + got + ", due is " + want, got.equals(want));
    }

    static void bodyIs(RecursionSchemes x, int n, String want) {
        String got = body(x, n);
        holds("the body of " + n + " is " + got + ", due is " + want, got.equals(want));
    }
}
