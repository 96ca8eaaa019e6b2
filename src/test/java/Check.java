/** Counts the answers that are not the ones that are due, and ends a test. */
final class Check {
    private static int checks = 0;
    private static int wrong = 0;
    private static String part = "";

    private Check() {
    }

    static void part(String name) {
        part = name;
    }

    static void due(String call, long got, long want) {
        checks++;
        if (got != want) {
            wrong++;
            System.out.println(part + ": " + call + " answered " + got + ", due is " + want);
        }
    }

    static void holds(String what, boolean condition) {
        checks++;
        if (!condition) {
            wrong++;
            System.out.println(part + ": " + what);
        }
    }

    static int wrongOnes() {
        return wrong;
    }

    static void finish() {
        System.out.println(wrong == 0 ? checks + " checks hold" : wrong + " of " + checks + " checks fail");
        if (wrong != 0) {
            System.exit(1);
        }
    }

    /** Puts a new text into the buffer. */
    static void write(RecursionSchemes x, String text) {
        x.clearText();
        for (int i = 0; i < text.length(); i++) {
            x.append(text.charAt(i));
        }
    }

    static RecursionSchemes loaded(String setup) {
        RecursionSchemes x = new RecursionSchemes();
        write(x, setup);
        holds("load of " + setup, x.load() >= 0);
        return x;
    }

    /** The body as a text. */
    static String body(RecursionSchemes x, int n) {
        StringBuilder symbols = new StringBuilder();
        for (int i = 0; i < x.bodyLength(n); i++) {
            symbols.append((char) x.bodySymbol(n, i));
        }
        return symbols.toString();
    }

    static void bodyIs(RecursionSchemes x, int n, String want) {
        String got = body(x, n);
        holds("the body of " + n + " is " + got + ", due is " + want, got.equals(want));
    }
}
