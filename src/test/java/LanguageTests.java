import com.sun.source.tree.Tree;
import java.io.IOException;
import java.lang.reflect.Constructor;
import java.lang.reflect.Field;
import java.lang.reflect.Method;
import java.lang.reflect.Modifier;
import java.nio.charset.StandardCharsets;
import java.nio.file.Files;
import java.nio.file.Path;
import java.util.Collection;
import java.util.EnumSet;
import java.util.HashMap;
import java.util.List;
import java.util.Map;
import java.util.Set;
import java.util.TreeSet;

/**
 * The rules of LANGUAGE.md that can be seen in the source, as javac reads it, and in the compiled
 * class. What is allowed here is what the class uses, which is less than the rules allow: whoever
 * needs more looks the rule up and adds it.
 */
public final class LanguageTests {
    private static final Set<String> FACE = new TreeSet<>(Set.of(
            "give", "breakOff", "move", "pass", "sweep", "set", "take", "restore", "undo", "append",
            "clearText", "run", "failure", "count", "promise", "slot", "stands", "call", "next", "when",
            "would", "leastRoom"));
    private static final Set<String> CONSTANTS = new TreeSet<>(Set.of(
            "INVALID_ARGUMENT", "ILLEGAL_STATE", "CAPACITY_EXCEEDED", "NONE"));
    private static final Set<String> TYPES = Set.of(
            "int", "boolean", "void", "int[]", "boolean[]", "String", "java.lang.String");
    private static final Set<String> LIBRARY = Set.of(
            "java.lang.Math.floorMod(int,int)", "java.lang.Math.max(int,int)",
            "java.lang.Math.min(int,int)", "java.lang.String.charAt(int)", "java.lang.String.length()",
            "java.lang.System.arraycopy(java.lang.Object,int,java.lang.Object,int,int)",
            "java.util.Arrays.fill(int[],int)", "java.lang.Object.Object()");
    private static final Set<Tree.Kind> KINDS = EnumSet.of(
            Tree.Kind.COMPILATION_UNIT, Tree.Kind.IMPORT, Tree.Kind.CLASS, Tree.Kind.METHOD,
            Tree.Kind.VARIABLE, Tree.Kind.MODIFIERS, Tree.Kind.PRIMITIVE_TYPE, Tree.Kind.ARRAY_TYPE,
            Tree.Kind.BLOCK, Tree.Kind.IF, Tree.Kind.FOR_LOOP, Tree.Kind.SWITCH, Tree.Kind.CASE,
            Tree.Kind.RETURN, Tree.Kind.EXPRESSION_STATEMENT, Tree.Kind.ASSIGNMENT,
            Tree.Kind.PLUS_ASSIGNMENT, Tree.Kind.POSTFIX_INCREMENT, Tree.Kind.POSTFIX_DECREMENT,
            Tree.Kind.PARENTHESIZED, Tree.Kind.CONDITIONAL_EXPRESSION, Tree.Kind.CONDITIONAL_AND,
            Tree.Kind.CONDITIONAL_OR, Tree.Kind.LOGICAL_COMPLEMENT, Tree.Kind.MULTIPLY, Tree.Kind.DIVIDE,
            Tree.Kind.REMAINDER, Tree.Kind.PLUS, Tree.Kind.MINUS, Tree.Kind.UNARY_MINUS,
            Tree.Kind.RIGHT_SHIFT, Tree.Kind.AND, Tree.Kind.LESS_THAN, Tree.Kind.GREATER_THAN,
            Tree.Kind.LESS_THAN_EQUAL, Tree.Kind.GREATER_THAN_EQUAL, Tree.Kind.EQUAL_TO,
            Tree.Kind.NOT_EQUAL_TO, Tree.Kind.ARRAY_ACCESS, Tree.Kind.MEMBER_SELECT,
            Tree.Kind.IDENTIFIER, Tree.Kind.METHOD_INVOCATION, Tree.Kind.NEW_CLASS, Tree.Kind.NEW_ARRAY,
            Tree.Kind.INT_LITERAL, Tree.Kind.BOOLEAN_LITERAL, Tree.Kind.CHAR_LITERAL,
            Tree.Kind.STRING_LITERAL, Tree.Kind.NULL_LITERAL);
    private static final int MOST_CLASSES = 12;
    private static final int MOST_FIELDS = 20;
    private static final int MOST_PARAMETERS = 7;
    private static final int MOST_LINES = 60;
    private static final int DEEPEST = 8;

    private LanguageTests() {
    }

    public static void main(String[] arguments) throws IOException {
        Path path = Path.of(arguments.length > 0 ? arguments[0] : "src/main/java/PromiseWheel.java");
        SourceReading source = SourceReading.of(path);
        face();
        classesInside(source);
        types(source);
        library(source, Files.readString(path, StandardCharsets.ISO_8859_1));
        staticFields();
        kinds(source);
        recursion(source);
        loops(source);
        texts(source);
        sizes(source);
        makings(source);
        Check.finish("LanguageTests");
    }

    private static void none(String what, Collection<String> found) {
        Check.holds(what + ": " + found, found.isEmpty());
    }

    private static boolean isPrivate(int modifiers) {
        return Modifier.isPrivate(modifiers);
    }

    private static void face() {
        Class<?> wheel = PromiseWheel.class;
        Check.same("rule 1: public and final", wheel.getModifiers(), Modifier.PUBLIC | Modifier.FINAL);
        Set<String> open = new TreeSet<>();
        for (Method method : wheel.getDeclaredMethods()) {
            if (isPrivate(method.getModifiers())) {
                Check.holds("rule 1: private " + method, !FACE.contains(method.getName()));
            } else {
                open.add(method.getName());
                Check.same("rule 1: " + method, method.getModifiers(), Modifier.PUBLIC);
            }
        }
        Check.holds("rule 1: the methods " + open, open.equals(FACE));
        Constructor<?>[] constructors = wheel.getDeclaredConstructors();
        Check.same("rule 1: constructors", constructors.length, 1);
        Check.same("rule 1: public", constructors[0].getModifiers(), Modifier.PUBLIC);
        Set<String> constants = new TreeSet<>();
        for (Field field : wheel.getDeclaredFields()) {
            if (!isPrivate(field.getModifiers())) {
                constants.add(field.getName());
            }
        }
        Check.holds("rule 1: the constants " + constants, constants.equals(CONSTANTS));
    }

    private static void classesInside(SourceReading source) {
        for (Class<?> inside : PromiseWheel.class.getDeclaredClasses()) {
            int modifiers = inside.getModifiers();
            Check.holds("rule 2: static " + inside, Modifier.isStatic(modifiers));
            Check.holds("rule 1: not public " + inside,
                    !Modifier.isPublic(modifiers) && !Modifier.isProtected(modifiers));
            Check.same("rule 2: in the class alone, " + inside, inside.getDeclaredClasses().length, 0);
            for (Method method : inside.getDeclaredMethods()) {
                Check.holds("rule 1: " + method, !FACE.contains(method.getName()));
            }
        }
        none("rule 2: a class inside a class inside, or in a method", source.nestedDeep);
    }

    private static void types(SourceReading source) {
        Set<String> own = new TreeSet<>();
        for (Class<?> inside : PromiseWheel.class.getDeclaredClasses()) {
            own.add(inside.getSimpleName());
        }
        source.types.forEach((type, line) -> {
            String plain = type.replaceFirst("^PromiseWheel\\.", "").replaceFirst("\\[\\]$", "");
            Check.holds("rule 3: " + type + " in line " + line, TYPES.contains(type) || own.contains(plain));
        });
    }

    private static void library(SourceReading source, String whole) {
        source.libraryCalls.forEach((call, line) ->
                Check.holds("rule 4: " + call + " in line " + line, LIBRARY.contains(call)));
        Check.holds("rule 4: " + source.imports, source.imports.equals(List.of("java.util.Arrays")));
        none("rule 4: signs that are not 1 to 127", source.wrongSigns);
        Check.holds("signs of the source", whole.chars().allMatch(sign -> sign < 128));
    }

    private static void staticFields() {
        staticFieldsOf(PromiseWheel.class);
        for (Class<?> inside : PromiseWheel.class.getDeclaredClasses()) {
            staticFieldsOf(inside);
        }
    }

    private static void staticFieldsOf(Class<?> type) {
        int ofObjects = 0;
        for (Field field : type.getDeclaredFields()) {
            if (Modifier.isStatic(field.getModifiers())) {
                Check.holds("rule 5: final " + field, Modifier.isFinal(field.getModifiers()));
                Check.holds("rule 5: a number " + field, field.getType() == int.class);
            } else {
                ofObjects++;
            }
        }
        Check.holds("rule 11: fields of " + type, ofObjects <= MOST_FIELDS);
    }

    /** No throw, try, lambda, cast, while and so on: only what is listed. */
    private static void kinds(SourceReading source) {
        source.kinds.forEach((kind, line) ->
                Check.holds("rules 2, 6, 9, 10: " + kind + " in line " + line, KINDS.contains(kind)));
        none("rule 6: texts compared by == or !=", source.comparedTexts);
    }

    private static void recursion(SourceReading source) {
        Map<String, Integer> depths = new HashMap<>();
        for (String method : source.calls.keySet()) {
            int depth = depth(method, source, depths, new TreeSet<>());
            Check.holds("rule 11: calls below " + method + " go " + depth + " deep", depth <= DEEPEST);
        }
    }

    /** How many calls stand open at once from this one on, this one among them. */
    private static int depth(String method, SourceReading source, Map<String, Integer> known,
            Set<String> open) {
        if (known.containsKey(method)) {
            return known.get(method);
        }
        Check.holds("rule 8: " + method + " calls itself", open.add(method));
        int deepest = 0;
        for (String called : source.calls.getOrDefault(method, Set.of())) {
            if (!open.contains(called)) {
                deepest = Math.max(deepest, depth(called, source, known, open));
            } else {
                Check.holds("rule 8: " + method + " comes back to " + called, false);
            }
        }
        open.remove(method);
        known.put(method, deepest + 1);
        return deepest + 1;
    }

    private static void loops(SourceReading source) {
        none("rule 9: a loop without a counter against a bound", source.uncountedLoops);
    }

    private static void texts(SourceReading source) {
        none("rule 10: texts joined by +", source.joinedTexts);
    }

    private static void sizes(SourceReading source) {
        int classes = 1 + PromiseWheel.class.getDeclaredClasses().length;
        Check.holds("rule 11: " + classes + " classes", classes <= MOST_CLASSES);
        source.linesOfMethods.forEach((method, lines) ->
                Check.holds("rule 11: lines of " + method, lines <= MOST_LINES));
        source.parametersOfMethods.forEach((method, parameters) ->
                Check.holds("rule 11: parameters of " + method, parameters <= MOST_PARAMETERS));
    }

    /** Stronger than rule 12: whatever is made is made with the wheel itself. */
    private static void makings(SourceReading source) {
        none("rule 12: made by a call", source.madeByCalls);
    }
}
