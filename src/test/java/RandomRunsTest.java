import java.util.Random;

/** Random runs of calls, the same ones each time, on the program and on the oracle side by side. */
public final class RandomRunsTest {
    private static final String ALL = "abcdSFGHxy";
    private static final int STEPS = 40;
    /** What an object answers after 512 calls is free; a step makes up to 105 calls, the last look 180. */
    private static final int CALLS_BEFORE_A_STEP = 512 - 105;
    private static final int CALLS_BEFORE_THE_LAST_LOOK = 512 - 180;

    private final Random random;
    private final RecursionSchemes program = new RecursionSchemes();
    private final Oracle oracle = new Oracle();
    private final int checksBefore = Check.count();

    private RandomRunsTest(long seed) {
        random = new Random(seed);
    }

    public static void main(String[] args) {
        int runs = args.length > 0 ? Integer.parseInt(args[0]) : 500;
        for (int seed = 0; seed < runs && Check.wrongOnes() == 0; seed++) {
            Check.part("random run " + seed);
            new RandomRunsTest(seed).run();
        }
        Check.finish();
    }

    private void run() {
        writeBoth(setup());
        Check.due("load()", program.load(), oracle.load());
        for (int i = 0; i < STEPS && calls() <= CALLS_BEFORE_A_STEP && Check.wrongOnes() == 0; i++) {
            int kind = random.nextInt(100);
            if (kind < 12) {
                textCall();
            } else if (kind < 45) {
                change();
            } else {
                question();
            }
        }
        if (calls() <= CALLS_BEFORE_THE_LAST_LOOK) {
            wholeState();
        }
    }

    /** Each call of the program is checked once. */
    private int calls() {
        return Check.count() - checksBefore;
    }

    private int pick(int low, int high) {
        return low + random.nextInt(high - low + 1);
    }

    /** Mostly a good value, now and then one beside the range. */
    private int about(int low, int high) {
        int dice = random.nextInt(40);
        if (dice == 0) {
            return low - 1;
        }
        if (dice == 1) {
            return high + 1;
        }
        if (dice == 2) {
            return random.nextInt();
        }
        return pick(low, high);
    }

    // ---- texts

    private void writeBoth(String text) {
        Check.due("clearText()", program.clearText(), oracle.clearText());
        for (int i = 0; i < text.length(); i++) {
            Check.due("append of " + text, program.append(text.charAt(i)), oracle.append(text.charAt(i)));
        }
    }

    private String term(int n, int budget) {
        String variables = n == 0 ? "" : n == 3 ? "xxyy" : "xxx";
        String from = budget <= 2 ? "cdS" + variables : "aabbFFGGHHHcdS" + variables;
        char symbol = from.charAt(random.nextInt(from.length()));
        if ("aH".indexOf(symbol) >= 0) {
            return symbol + term(n, budget / 2) + term(n, budget / 2);
        }
        return "bFG".indexOf(symbol) >= 0 ? symbol + term(n, budget - 1) : "" + symbol;
    }

    private String item() {
        if (random.nextInt(5) < 2) {
            int n = random.nextInt(4);
            return "SFGH".charAt(n) + "=" + term(n, pick(1, 16)) + ";";
        }
        int t = random.nextInt(4);
        String item = "" + random.nextInt(3) + "abcd".charAt(t);
        for (int child = 0; child < 2 - t; child++) {
            item += random.nextInt(3);
        }
        return item + ";";
    }

    private String setup() {
        StringBuilder setup = new StringBuilder();
        int density = pick(4, 16);
        for (int n = 0; n < 4; n++) {
            setup.append("SFGH".charAt(n)).append('=').append(term(n, pick(1, 12))).append(';');
        }
        for (int i = 0; i < density; i++) {
            String next = item();
            if (setup.length() + next.length() <= 99) {
                setup.append(next);
            }
        }
        return setup.toString();
    }

    private String spoilt(String text) {
        StringBuilder changed = new StringBuilder(text);
        int at = random.nextInt(text.length());
        String signs = ALL + "SFGH=;;0123";
        switch (random.nextInt(4)) {
            case 0:
                changed.deleteCharAt(at);
                break;
            case 1:
                changed.insert(at, signs.charAt(random.nextInt(signs.length())));
                break;
            case 2:
                changed.setCharAt(at, signs.charAt(random.nextInt(signs.length())));
                break;
            default:
                changed.setCharAt(at, (char) random.nextInt(256));
        }
        return changed.toString();
    }

    private void textCall() {
        switch (random.nextInt(4)) {
            case 0:
                writeBoth(setup());
                break;
            case 1:
                writeBoth(spoilt(setup()));
                break;
            case 2:
                writeBoth(spoilt(item()));
                break;
            default:
                int c = about(0, 255);
                Check.due("append(" + c + ")", program.append(c), oracle.append(c));
        }
        Check.due("errorPosition()", program.errorPosition(), oracle.errorPosition());
        if (random.nextInt(4) == 0) {
            Check.due("load()", program.load(), oracle.load());
        }
    }

    // ---- calls that change the state

    private void change() {
        int n = about(0, 3);
        int q = about(0, 2);
        int t = about(0, 3);
        switch (random.nextInt(9)) {
            case 0:
            case 1:
                int of = Math.floorMod(n, 4);
                writeBoth(term(of, pick(1, 26)));
                Check.due("setBody(" + n + ")", program.setBody(n), oracle.setBody(n));
                break;
            case 2:
            case 3:
                int q1 = t >= 2 && random.nextInt(5) > 0 ? 0 : about(0, 2);
                int q2 = t >= 1 && random.nextInt(5) > 0 ? 0 : about(0, 2);
                Check.due("setTransition(" + q + ", " + t + ", " + q1 + ", " + q2 + ")",
                    program.setTransition(q, t, q1, q2), oracle.setTransition(q, t, q1, q2));
                break;
            case 4:
                Check.due("removeTransition(" + q + ", " + t + ")",
                    program.removeTransition(q, t), oracle.removeTransition(q, t));
                break;
            case 5:
                int i = inlineIndex(n);
                Check.due("inline(" + n + ", " + i + ")", program.inline(n, i), oracle.inline(n, i));
                break;
            case 6:
                Check.due("exchange()", program.exchange(), oracle.exchange());
                break;
            case 7:
                Check.due("undo()", program.undo(), oracle.undo());
                break;
            default:
                int slot = about(0, 1);
                if (random.nextInt(3) > 0) {
                    Check.due("save(" + slot + ")", program.save(slot), oracle.save(slot));
                } else {
                    Check.due("restore(" + slot + ")", program.restore(slot), oracle.restore(slot));
                }
        }
    }

    // ---- questions

    /** Mostly the path of a node, if there are any so deep. */
    private int path() {
        int path = 0;
        boolean strict = random.nextInt(4) > 0;
        for (int steps = random.nextInt(7); steps > 0; steps--) {
            int next = 10 * path + pick(1, 2);
            if (strict && oracle.labelAt(next) == RecursionSchemes.NONE) {
                next = 10 * path + 1;
            }
            if (strict && oracle.labelAt(next) == RecursionSchemes.NONE) {
                break;
            }
            path = next;
        }
        int dice = random.nextInt(20);
        return dice == 0 ? random.nextInt(1300) - 20 : dice == 1 ? 10 * path + pick(0, 9) : path;
    }

    /** Mostly the index of a nonterminal in the body, if there is one. */
    private int inlineIndex(int n) {
        int start = about(0, 8);
        for (int i = 0; i < oracle.bodyLength(n) && random.nextInt(30) > 0; i++) {
            int at = Math.floorMod(start + i, oracle.bodyLength(n));
            if ("SFGH".indexOf(oracle.bodySymbol(n, at)) >= 0) {
                return at;
            }
        }
        return start;
    }

    private long script(int n) {
        long script = 0;
        for (int i = 0; i < n; i++) {
            script = 10000 * script + group();
        }
        int dice = random.nextInt(20);
        return dice == 0 ? 10 * script : dice == 1 ? -script : dice == 2 ? random.nextLong() : script;
    }

    /** Half of the groups are made to succeed, or nearly. */
    private int group() {
        int n = random.nextInt(4);
        int depth = random.nextInt(7);
        int off = random.nextInt(6) == 0 ? 1 : 0;
        switch (random.nextInt(8)) {
            case 0:
                return 1000 + 100 * random.nextInt(3) + 10 * random.nextInt(4) + off;
            case 1:
                return 2000 + 100 * random.nextInt(3) + 10 * pick(0, 3) + off;
            case 2:
                return 3000 + oracle.accepts() + off;
            case 3:
                return 4000 + 100 * n + (oracle.typingCount(n) + off) % 100;
            case 4:
                return 5000 + 100 * depth + (oracle.nodesAtDepth(depth) + off) % 100;
            case 5:
                return 6000 + oracle.rounds() + 100 * off;
            case 6:
                return random.nextInt(10000);
            default:
                return 1000 * pick(1, 6) + random.nextInt(1000);
        }
    }

    private void question() {
        int n = about(0, 3);
        int q = about(0, 2);
        int t = about(0, 3);
        int i = about(0, 9);
        int path = path();
        int depth = about(0, 6);
        switch (random.nextInt(16)) {
            case 0:
                Check.due("bodyLength(" + n + ")", program.bodyLength(n), oracle.bodyLength(n));
                break;
            case 1:
                Check.due("bodySymbol(" + n + ", " + i + ")", program.bodySymbol(n, i), oracle.bodySymbol(n, i));
                break;
            case 2:
                int child = about(1, 2);
                Check.due("transition(" + q + ", " + t + ", " + child + ")",
                    program.transition(q, t, child), oracle.transition(q, t, child));
                break;
            case 3:
                Check.due("hasTransition(" + q + ", " + t + ")",
                    program.hasTransition(q, t), oracle.hasTransition(q, t));
                break;
            case 4:
                Check.due("reachable()", program.reachable(), oracle.reachable());
                break;
            case 5:
                Check.due("labelAt(" + path + ")", program.labelAt(path), oracle.labelAt(path));
                break;
            case 6:
                Check.due("expansionsAt(" + path + ")", program.expansionsAt(path), oracle.expansionsAt(path));
                break;
            case 7:
                Check.due("stateAt(" + path + ")", program.stateAt(path), oracle.stateAt(path));
                break;
            case 8:
                Check.due("nodesAtDepth(" + depth + ")", program.nodesAtDepth(depth), oracle.nodesAtDepth(depth));
                break;
            case 9:
                Check.due("wrongBranch(" + depth + ")", program.wrongBranch(depth), oracle.wrongBranch(depth));
                break;
            case 10:
                Check.due("descend(" + path + ", " + i + ")",
                    program.descend(path * 77777777777L, 3 * i), oracle.descend(path * 77777777777L, 3 * i));
                break;
            case 11:
                int commands = about(1, 4);
                long script = script(Math.floorMod(commands, 5));
                Check.due("runScript(" + commands + ", " + script + ")",
                    program.runScript(commands, script), oracle.runScript(commands, script));
                break;
            default:
                typeQuestion(n, q);
        }
    }

    private void typeQuestion(int n, int q) {
        switch (random.nextInt(5)) {
            case 0:
                Check.due("accepts()", program.accepts(), oracle.accepts());
                break;
            case 1:
                Check.due("rounds()", program.rounds(), oracle.rounds());
                break;
            case 2:
                Check.due("typingCount(" + n + ")", program.typingCount(n), oracle.typingCount(n));
                break;
            case 3:
                int s1 = n == 0 && random.nextInt(5) > 0 ? 0 : about(0, 7);
                int s2 = n != 3 && random.nextInt(5) > 0 ? 0 : about(0, 7);
                Check.due("isValid(" + n + ", " + q + ", " + s1 + ", " + s2 + ")",
                    program.isValid(n, q, s1, s2), oracle.isValid(n, q, s1, s2));
                break;
            default:
                int k = about(1, 2);
                Check.due("demand(" + n + ", " + q + ", " + k + ")",
                    program.demand(n, q, k), oracle.demand(n, q, k));
        }
    }

    private void wholeState() {
        for (int n = 0; n < 4; n++) {
            Check.due("typingCount(" + n + ")", program.typingCount(n), oracle.typingCount(n));
            for (int i = 0; i <= oracle.bodyLength(n); i++) {
                Check.due("bodySymbol(" + n + ", " + i + ")", program.bodySymbol(n, i), oracle.bodySymbol(n, i));
            }
        }
        for (int depth = 0; depth <= 6; depth++) {
            Check.due("nodesAtDepth(" + depth + ")", program.nodesAtDepth(depth), oracle.nodesAtDepth(depth));
        }
        for (int left = 0; left < 15; left++) {
            Check.due("undo()", program.undo(), oracle.undo());
            Check.due("rounds()", program.rounds(), oracle.rounds());
            Check.due("wrongBranch(6)", program.wrongBranch(6), oracle.wrongBranch(6));
        }
    }
}
