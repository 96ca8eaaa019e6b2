import java.io.IOException;
import java.lang.reflect.Constructor;
import java.lang.reflect.Field;
import java.lang.reflect.Method;
import java.lang.reflect.Modifier;
import java.nio.charset.StandardCharsets;
import java.nio.file.Files;
import java.nio.file.Path;
import java.util.Arrays;
import java.util.List;
import java.util.Set;
import java.util.TreeSet;
import java.util.regex.Matcher;
import java.util.regex.Pattern;

/** The public face of the document, and those rules of LANGUAGE.md that can be looked up. */
public final class FaceTest {
    private static final String SOURCE = "src/main/java/RecursionSchemes.java";

    private static final List<String> METHODS = List.of(
        "append(int)", "clearText()", "errorPosition()", "load()", "bodyLength(int)",
        "bodySymbol(int, int)", "transition(int, int, int)", "hasTransition(int, int)", "reachable()",
        "setBody(int)", "setTransition(int, int, int, int)", "removeTransition(int, int)",
        "inline(int, int)", "exchange()", "undo()", "labelAt(int)", "expansionsAt(int)",
        "stateAt(int)", "nodesAtDepth(int)", "wrongBranch(int)", "accepts()", "rounds()",
        "typingCount(int)", "isValid(int, int, int, int)", "demand(int, int, int)",
        "runScript(int, long)", "descend(long, int)", "save(int)", "restore(int)");

    private FaceTest() {
    }

    public static void main(String[] args) throws IOException {
        constants();
        members();
        insideClasses();
        source(Files.readString(Path.of(SOURCE), StandardCharsets.ISO_8859_1));
        Check.finish();
    }

    private static void constants() {
        Check.part("constants");
        Check.due("NO_SUCH_INDEX", RecursionSchemes.NO_SUCH_INDEX, -1);
        Check.due("BAD_VALUE", RecursionSchemes.BAD_VALUE, -2);
        Check.due("NOT_POSSIBLE", RecursionSchemes.NOT_POSSIBLE, -3);
        Check.due("FULL", RecursionSchemes.FULL, -4);
        Check.due("NONE", RecursionSchemes.NONE, -9);
        Check.due("UNDEFINED", RecursionSchemes.UNDEFINED, 0);
    }

    private static void members() {
        Check.part("face");
        Class<?> type = RecursionSchemes.class;
        Check.holds("public and final", Modifier.isPublic(type.getModifiers()) && Modifier.isFinal(type.getModifiers()));
        Set<String> open = new TreeSet<>();
        for (Method method : type.getDeclaredMethods()) {
            if (!Modifier.isPrivate(method.getModifiers())) {
                Check.holds(method + " is public", Modifier.isPublic(method.getModifiers()));
                Check.holds(method + " returns int", method.getReturnType() == int.class);
                String parameters = Arrays.toString(Arrays.stream(method.getParameterTypes())
                    .map(Class::getName).toArray());
                open.add(method.getName() + "(" + parameters.substring(1, parameters.length() - 1) + ")");
            }
        }
        Check.holds("the methods are " + open, open.equals(new TreeSet<>(METHODS)));
        int constants = 0;
        for (Field field : type.getDeclaredFields()) {
            if (!Modifier.isPrivate(field.getModifiers())) {
                constants++;
            }
            ruleOfFields(field);
        }
        Check.due("constants that are not private", constants, 6);
        Constructor<?>[] constructors = type.getDeclaredConstructors();
        Check.holds("one constructor without parameters",
            constructors.length == 1 && constructors[0].getParameterCount() == 0);
    }

    private static void ruleOfFields(Field field) {
        if (Modifier.isStatic(field.getModifiers())) {
            Check.holds(field + " is final", Modifier.isFinal(field.getModifiers()));
        }
    }

    private static void insideClasses() {
        Check.part("classes inside");
        Set<String> faceNames = new TreeSet<>();
        METHODS.forEach(method -> faceNames.add(method.substring(0, method.indexOf('('))));
        Class<?>[] inside = RecursionSchemes.class.getDeclaredClasses();
        Check.holds("at most twelve classes", inside.length < 12);
        for (Class<?> type : inside) {
            int modifiers = type.getModifiers();
            Check.holds(type + " is static", Modifier.isStatic(modifiers));
            Check.holds(type + " is not open", !Modifier.isPublic(modifiers) && !Modifier.isProtected(modifiers));
            for (Method method : type.getDeclaredMethods()) {
                Check.holds(method + " has a name of the face", !faceNames.contains(method.getName()));
                Check.holds(method + " has at most seven parameters", method.getParameterCount() <= 7);
            }
            long own = Arrays.stream(type.getDeclaredFields())
                .filter(field -> !Modifier.isStatic(field.getModifiers())).count();
            Check.holds(type + " has few fields", own <= 20);
            Arrays.stream(type.getDeclaredFields()).forEach(FaceTest::ruleOfFields);
        }
        for (Method method : RecursionSchemes.class.getDeclaredMethods()) {
            boolean hidden = Modifier.isPrivate(method.getModifiers());
            Check.holds(method + " has a name of the face", !hidden || !faceNames.contains(method.getName()));
        }
    }

    private static void source(String source) {
        Check.part("source");
        String code = source.replaceAll("(?s)/\\*.*?\\*/", "").replaceAll("//[^\n]*", "");
        for (String word : List.of("throw", "throws", "try", "catch", "finally", "synchronized", "assert",
            "package", "double", "float", "System.out", "protected", "interface", "Exact")) {
            Check.holds("the word " + word, !Pattern.compile("\\b" + Pattern.quote(word)).matcher(code).find());
        }
        Check.holds("a lambda", !code.contains("->"));
        Check.holds("a method reference", !code.contains("::"));
        Check.holds("a static block", !Pattern.compile("static\\s*\\{").matcher(code).find());
        Matcher imports = Pattern.compile("import ([^;]*);").matcher(code);
        while (imports.find()) {
            Check.holds(imports.group(1), imports.group(1).equals("java.util.Arrays"));
        }
        for (int i = 0; i < source.length(); i++) {
            char c = source.charAt(i);
            Check.holds("sign " + (int) c + " at " + i, c == '\n' || c >= 32 && c < 127);
        }
        int longest = 0;
        int start = 0;
        String[] lines = code.split("\n");
        for (int i = 0; i < lines.length; i++) {
            if (lines[i].matches("    (    )?\\S.*\\) \\{")) {
                start = i;
            }
            if (lines[i].matches("    (    )?\\}")) {
                longest = Math.max(longest, i - start + 1);
            }
        }
        Check.holds("the longest method has " + longest + " lines", longest > 5 && longest <= 60);
    }
}
