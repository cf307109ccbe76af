import java.io.IOException;
import java.lang.reflect.Field;
import java.lang.reflect.Member;
import java.lang.reflect.Method;
import java.lang.reflect.Modifier;
import java.nio.file.Files;
import java.nio.file.Path;
import java.util.ArrayList;
import java.util.Arrays;
import java.util.List;
import java.util.Set;
import java.util.TreeSet;
import java.util.regex.Matcher;
import java.util.regex.Pattern;

/** The public face is the document's and no more, and the source keeps to plain rules of LANGUAGE.md. */
public final class FaceTest {
    private static final Checks CHECKS = new Checks();

    private static final List<String> CONSTANTS =
        List.of("LETTER", "ANY", "EMPTY", "THEN", "OR", "STAR", "PLUS", "RULE");

    private static final Set<String> METHODS = new TreeSet<>(List.of(
        "int token(int, int)", "void clear()", "int type(int)", "void erase()", "int words()",
        "int sort(int)", "int length(int)", "int matches(int)", "int count(int, int)",
        "int sortOf(int, int)"));

    private static final Set<Class<?>> TYPES = Set.of(
        int.class, long.class, short.class, byte.class, char.class, boolean.class, int[].class,
        long[].class, short[].class, byte[].class, char[].class, boolean[].class);

    private static final List<String> FORBIDDEN = List.of(
        "package", "import", "throw", "throws", "try", "catch", "finally", "synchronized", "assert",
        "instanceof", "null", "float", "double", "String", "Math", "Integer", "System", "Arrays",
        "Object", "enum", "interface", "record", "var", "protected");

    public static void main(String[] args) throws IOException {
        constants();
        members();
        types();
        source(Files.readString(Path.of("src/main/java/LexTables.java")));
        CHECKS.finish("FaceTest");
    }

    private static void constants() {
        int[] values = {
            LexTables.LETTER, LexTables.ANY, LexTables.EMPTY, LexTables.THEN, LexTables.OR,
            LexTables.STAR, LexTables.PLUS, LexTables.RULE
        };
        for (int i = 0; i < values.length; i++) {
            CHECKS.due(CONSTANTS.get(i), values[i], i);
        }
    }

    private static void members() {
        Class<?> type = LexTables.class;
        CHECKS.due("modifiers", type.getModifiers(), Modifier.PUBLIC | Modifier.FINAL);
        CHECKS.due("nested classes", type.getDeclaredClasses().length, 0);
        CHECKS.due("constructors", type.getDeclaredConstructors().length, 1);
        CHECKS.due("parameters", type.getDeclaredConstructors()[0].getParameterCount(), 0);
        CHECKS.holds("a public constructor", isPublic(type.getDeclaredConstructors()[0]));

        Set<String> open = new TreeSet<>();
        Set<String> openNames = new TreeSet<>();
        Set<String> privateNames = new TreeSet<>();
        for (Method method : type.getDeclaredMethods()) {
            if (Modifier.isPrivate(method.getModifiers())) {
                privateNames.add(method.getName());
            } else {
                CHECKS.due(method + " modifiers", method.getModifiers(), Modifier.PUBLIC);
                open.add(signature(method));
                openNames.add(method.getName());
            }
        }
        CHECKS.holds("the document's methods, not " + open, open.equals(METHODS));
        privateNames.retainAll(openNames);
        CHECKS.holds("no private method named as a public one: " + privateNames, privateNames.isEmpty());

        Set<String> fields = new TreeSet<>();
        for (Field field : type.getDeclaredFields()) {
            if (!Modifier.isPrivate(field.getModifiers())) {
                CHECKS.due(field + " modifiers", field.getModifiers(),
                    Modifier.PUBLIC | Modifier.STATIC | Modifier.FINAL);
                fields.add(field.getName());
            }
        }
        CHECKS.holds("the document's constants, not " + fields, fields.equals(new TreeSet<>(CONSTANTS)));
    }

    private static void types() {
        for (Field field : LexTables.class.getDeclaredFields()) {
            CHECKS.holds(field + " of a type that is allowed", TYPES.contains(field.getType()));
            if (Modifier.isStatic(field.getModifiers())) {
                CHECKS.holds(field + " a constant", Modifier.isFinal(field.getModifiers())
                    && (field.getType() == int.class || field.getType() == long.class));
            }
        }
        for (Method method : LexTables.class.getDeclaredMethods()) {
            CHECKS.holds(method + " of few parameters", method.getParameterCount() <= 7);
            CHECKS.holds(method + " answers no array", !method.getReturnType().isArray());
            for (Class<?> type : method.getParameterTypes()) {
                CHECKS.holds(method + " of types that are allowed", TYPES.contains(type));
            }
        }
    }

    private static void source(String whole) {
        String code = whole.replaceAll("(?s)/\\*.*?\\*/", " ").replaceAll("//[^\n]*", " ");
        for (String word : FORBIDDEN) {
            Matcher matcher = Pattern.compile("\\b" + word + "\\b").matcher(code);
            CHECKS.holds("no word '" + word + "' in the source", !matcher.find());
        }
        CHECKS.holds("no lambda and no method reference", !code.contains("->") && !code.contains("::"));
        CHECKS.holds("no text and no annotation", !code.contains("\"") && !code.contains("@"));

        Matcher made = Pattern.compile("[^\n]*\\bnew\\b[^\n]*").matcher(code);
        while (made.find()) {
            CHECKS.holds("made in a field's initialiser: " + made.group().trim(),
                made.group().matches(" {4}private final \\w+\\[\\] \\w+ = new \\w+\\[\\w+\\];"));
        }
        CHECKS.due("'while' loops, whose end is not seen from one line", count(code, "\\bwhile\\b"), 0);
    }

    private static int count(String code, String pattern) {
        return (int) Pattern.compile(pattern).matcher(code).results().count();
    }

    private static boolean isPublic(Member member) {
        return Modifier.isPublic(member.getModifiers());
    }

    private static String signature(Method method) {
        List<String> parameters = new ArrayList<>();
        Arrays.stream(method.getParameterTypes()).forEach(type -> parameters.add(type.getSimpleName()));
        return method.getReturnType().getSimpleName() + " " + method.getName()
            + "(" + String.join(", ", parameters) + ")";
    }
}
