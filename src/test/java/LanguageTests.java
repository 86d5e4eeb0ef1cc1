import java.io.IOException;
import java.lang.reflect.Constructor;
import java.lang.reflect.Field;
import java.lang.reflect.Member;
import java.lang.reflect.Method;
import java.lang.reflect.Modifier;
import java.nio.charset.StandardCharsets;
import java.nio.file.Files;
import java.nio.file.Path;
import java.util.Set;
import java.util.TreeSet;
import java.util.regex.Matcher;
import java.util.regex.Pattern;

/** The rules of LANGUAGE.md that can be seen in the source text and in the compiled class. */
public final class LanguageTests {
    private static final Set<String> FACE = new TreeSet<>(Set.of(
            "int give(int,int,int)", "int breakOff(int)", "int move(int,int)", "int pass(int)",
            "int sweep()", "int set(int,int)", "int take(int)", "int restore(int)", "int undo()",
            "int append(int)", "int clearText()", "int run()", "int failure(int)", "int count(int)",
            "int promise(int,int)", "int slot(int,int,int)", "int stands(int,int,int)",
            "int call(int,int)", "int next(int,int)", "int when(int)", "int would(int,int)",
            "int leastRoom(int)"));
    private static final Set<String> CONSTANTS = new TreeSet<>(Set.of(
            "INVALID_ARGUMENT", "ILLEGAL_STATE", "CAPACITY_EXCEEDED", "NONE"));
    private static final String[] FORBIDDEN_WORDS = {
        "throw", "throws", "try", "catch", "synchronized", "assert", "native", "volatile",
        "transient", "protected", "package", "System\\.out", "System\\.nanoTime",
        "System\\.currentTimeMillis", "Thread", "Random", "Object", "equals", "hashCode",
        "toString", "getClass", "var", "yield", "\\w+Exact"};
    private static final String[] FORBIDDEN_SIGNS = {"->", "::", "@"};

    private LanguageTests() {
    }

    public static void main(String[] arguments) throws IOException {
        String path = arguments.length > 0 ? arguments[0] : "src/main/java/PromiseWheel.java";
        String whole = Files.readString(Path.of(path), StandardCharsets.ISO_8859_1);
        signs(whole);
        String code = withoutCommentsAndTexts(whole);
        words(code);
        imports(code);
        face();
        classesInside();
        Check.finish("LanguageTests");
    }

    private static void signs(String whole) {
        for (int at = 0; at < whole.length(); at++) {
            if (whole.charAt(at) > 127) {
                Check.holds("rule 4: signs are 1 to 127, at " + at, false);
            }
        }
    }

    private static String withoutCommentsAndTexts(String whole) {
        return whole.replaceAll("(?s)/\\*.*?\\*/", " ")
                .replaceAll("//[^\n]*", " ")
                .replaceAll("'(\\\\.|[^'\\\\])'", "0")
                .replaceAll("\"(\\\\.|[^\"\\\\])*\"", "TEXT");
    }

    private static void words(String code) {
        for (String word : FORBIDDEN_WORDS) {
            boolean found = Pattern.compile("\\b" + word + "\\b").matcher(code).find();
            Check.holds("no " + word, !found);
        }
        for (String sign : FORBIDDEN_SIGNS) {
            Check.holds("no " + sign, !code.contains(sign));
        }
        Check.holds("no joining of texts by +", !code.contains("TEXT +") && !code.contains("+ TEXT"));
    }

    private static void imports(String code) {
        Set<String> allowed = Set.of("java.util.Arrays", "java.util.ArrayList", "java.util.List",
                "java.util.Iterator");
        Matcher matcher = Pattern.compile("import\\s+([^;]+);").matcher(code);
        while (matcher.find()) {
            Check.holds("rule 4: import " + matcher.group(1), allowed.contains(matcher.group(1)));
        }
    }

    private static void face() {
        Class<?> wheel = PromiseWheel.class;
        int modifiers = wheel.getModifiers();
        Check.holds("public and final", Modifier.isPublic(modifiers) && Modifier.isFinal(modifiers));
        Set<String> methods = new TreeSet<>();
        for (Method method : wheel.getDeclaredMethods()) {
            if (!Modifier.isPrivate(method.getModifiers())) {
                methods.add(signature(method));
                Check.holds("public " + method, method.getModifiers() == Modifier.PUBLIC);
            } else {
                Check.holds("rule 1: private " + method, !isNameOfFace(method.getName()));
            }
        }
        Check.holds("rule 1: the methods " + methods, methods.equals(FACE));
        Constructor<?>[] constructors = wheel.getDeclaredConstructors();
        Check.same("rule 1: constructors", constructors.length, 1);
        Check.same("rule 1: public", constructors[0].getModifiers(), Modifier.PUBLIC);
        Check.same("rule 1: no arguments", constructors[0].getParameterCount(), 0);
        Set<String> constants = new TreeSet<>();
        for (Field field : wheel.getDeclaredFields()) {
            if (!Modifier.isPrivate(field.getModifiers())) {
                constants.add(field.getName());
            }
        }
        Check.holds("rule 1: the constants " + constants, constants.equals(CONSTANTS));
        fields(wheel);
    }

    private static String signature(Method method) {
        StringBuilder text = new StringBuilder();
        text.append(method.getReturnType().getName()).append(' ').append(method.getName());
        text.append('(');
        String comma = "";
        for (Class<?> type : method.getParameterTypes()) {
            text.append(comma).append(type.getName());
            comma = ",";
        }
        return text.append(')').toString();
    }

    private static boolean isNameOfFace(String name) {
        for (String signature : FACE) {
            if (signature.startsWith("int " + name + "(")) {
                return true;
            }
        }
        return false;
    }

    private static void fields(Class<?> type) {
        int ofObjects = 0;
        for (Field field : type.getDeclaredFields()) {
            if (Modifier.isStatic(field.getModifiers())) {
                Check.holds("rule 5: final " + field, Modifier.isFinal(field.getModifiers()));
            } else {
                ofObjects++;
            }
        }
        Check.holds("rule 11: some twenty fields in " + type.getName(), ofObjects <= 20);
    }

    private static void classesInside() {
        Class<?>[] inside = PromiseWheel.class.getDeclaredClasses();
        Check.holds("rule 11: some twelve classes", inside.length <= 11);
        for (Class<?> type : inside) {
            int modifiers = type.getModifiers();
            Check.holds("rule 1: static " + type.getName(), Modifier.isStatic(modifiers));
            Check.holds("rule 1: not public " + type.getName(),
                    !Modifier.isPublic(modifiers) && !Modifier.isProtected(modifiers));
            fields(type);
            for (Method method : type.getDeclaredMethods()) {
                Check.holds("rule 11: parameters of " + method, method.getParameterCount() <= 7);
                Check.holds("rule 1: " + name(method), !isNameOfFace(method.getName()));
            }
        }
    }

    private static String name(Member member) {
        return member.getDeclaringClass().getName() + "." + member.getName();
    }
}
