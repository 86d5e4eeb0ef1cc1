import java.lang.reflect.Constructor;
import java.lang.reflect.Field;
import java.lang.reflect.Method;
import java.lang.reflect.Modifier;
import java.util.ArrayList;
import java.util.Arrays;
import java.util.List;
import java.util.regex.Matcher;
import java.util.regex.Pattern;

/** What stands before the terms: what it is, and the public face, line by line. */
final class FaceEdges extends Edges {
    /** In the document's order: the method of promise 2 comes first. */
    private static final String[] METHODS = {
        "int give(int delay, int period, int repetitions)", "int breakOff(int promise)",
        "int move(int promise, int delay)", "int pass(int ticks)", "int sweep()",
        "int set(int what, int value)", "int take(int slot)", "int restore(int slot)", "int undo()",
        "int append(int character)", "int clearText()", "int run()", "int failure(int what)",
        "int count(int what)", "int promise(int promise, int what)",
        "int slot(int ring, int slot, int what)", "int stands(int ring, int slot, int place)",
        "int call(int call, int what)", "int next(int way, int what)", "int when(int promise)",
        "int would(int ticks, int what)", "int leastRoom(int ticks)"};
    private static final int FIRST_METHOD = 2;
    private static final Pattern METHOD = Pattern.compile("public int (\\w+)\\(");

    private static String source;

    private FaceEdges() {
    }

    static void go(String sourceText) {
        source = sourceText;
        threeRings();
        called();
        repeated();
        broken();
        looks();
        kept();
        commands();
        laterCalls();
        classOfTheFace();
        constant("INVALID_ARGUMENT", PromiseWheel.INVALID_ARGUMENT, -1);
        constant("ILLEGAL_STATE", PromiseWheel.ILLEGAL_STATE, -2);
        constant("CAPACITY_EXCEEDED", PromiseWheel.CAPACITY_EXCEEDED, -3);
        constant("NONE", PromiseWheel.NONE, -9);
        constructor();
        for (int method = 0; method < METHODS.length; method++) {
            inTheFace(METHODS[method]);
            inItsPromise(METHODS[method], FIRST_METHOD + method);
        }
        nothingElse();
        ahead("promises", "give", "breakOff", "move", "pass", "sweep", "set");
        ahead("snapshots", "take", "restore", "undo");
        ahead("text", "append", "clearText", "run", "failure");
        ahead("looking", "count", "promise", "slot", "stands", "call", "next");
        ahead("what could be, which changes nothing", "when", "would", "leastRoom");
    }

    private static void threeRings() {
        sentence("What it is", "A wheel of promises in three rings: promises that stand in slots until "
                + "their tick, fall from the outer rings into the inner ones,");
        Counted wheel = new Counted();
        wheel.give(77, 0, 0);
        tells("in the outer ring", wheel, 0, 0, 77, 0, 0, 2, 1, 0);
        wheel.pass(63);
        same("there until its slot's tick", wheel.promise(0, RING), 2);
        wheel.pass(1);
        tells("fallen", wheel, 0, 0, 77, 0, 0, 1, 1, 0);
        wheel.pass(8);
        tells("fallen again", wheel, 0, 0, 77, 0, 0, 0, 5, 0);
        same("two falls", wheel.count(7), 2);
        same("until its tick", wheel.pass(4), 0);
        same("at its tick", wheel.pass(1), 1);
    }

    private static void called() {
        sentence("What it is", "are called a few in each tick, late if there are too many,");
        Counted wheel = new Counted();
        wheel.giveMany(7, 2);
        same("before their tick", wheel.pass(1), 0);
        same("three of seven", wheel.pass(1), 3);
        same("in time", wheel.count(6), 0);
        same("three more", wheel.pass(1), 3);
        same("late", wheel.count(6), 3);
        same("the last one", wheel.pass(1), 1);
        same("late, too", wheel.count(6), 4);
        tells("late by two", wheel, 6, 2, 2, 0, 0, NONE, NONE, NONE, 1, 2);
    }

    private static void repeated() {
        sentence("What it is", "and are repeated with or without drift;");
        for (int drift = 0; drift <= 1; drift++) {
            Counted wheel = new Counted();
            wheel.set(2, drift);
            wheel.set(0, 1);
            wheel.give(1, 0, 0);
            wheel.give(1, 5, 2);
            wheel.pass(2);
            tells("called late, at 2", wheel, 1, 0, drift == 0 ? 6 : 7, 5, 1);
            wheel.pass(5);
            tells("called again", wheel, 1, 0, drift == 0 ? 11 : 12, 5, 0);
            wheel.pass(5);
            same("done", wheel.promise(1, STATE), 2);
        }
    }

    private static void broken() {
        sentence("What it is", "broken ones that stay in their slots and are swept late;");
        Counted wheel = new Counted();
        wheel.give(10, 0, 0);
        same("broken", wheel.breakOff(0), 1);
        tells("it stays", wheel, 0, 3, 10, 0, 0, 1, 1, 0);
        wheel.pass(7);
        line("until its slot falls", wheel, 1, 1, 0);
        wheel.pass(1);
        tells("swept", wheel, 0, 4, 10, 0, 0, NONE, NONE, NONE);
        same("counted", wheel.count(8), 1);
    }

    private static void looks() {
        sentence("What it is", "the next one in two ways, forecasts,");
        Counted wheel = BUSY.told();
        for (int way = 0; way <= 1; way++) {
            same("the next one", wheel.next(way, 0), WAITING);
            same("its due tick", wheel.next(way, 1), 4);
        }
        same("forecast", wheel.when(WAITING), 4);
        same("calls to come", wheel.would(2, 0), 2);
        same("they have not come", wheel.count(0), 2);
    }

    private static void kept() {
        sentence("What it is", "snapshots, undo,");
        Counted wheel = new Counted();
        wheel.give(3, 0, 0);
        wheel.take(1);
        wheel.pass(3);
        wheel.restore(1);
        tells("as it was at tick 0", wheel, 0, 0, 3, 0, 0, 0, 3, 0);
        wheel.undo();
        tells("as it was at tick 3", wheel, 0, 2, 3, 0, 0, NONE, NONE, NONE);
    }

    private static void commands() {
        sentence("What it is", "and commands that are run from a text, with the cause of a failure.");
        Counted wheel = new Counted();
        same("run", wheel.runs("give 3 0 0; break 0;"), 2);
        same("failed", wheel.runs("sweep; break 0;"), -1007);
        same("a call", wheel.failure(0), 2);
        same("at its word", wheel.failure(1), 7);
        same("behind one command", wheel.failure(2), 1);
        same("its error", wheel.failure(3), ILLEGAL);
    }

    /** Their answers are free; that they end, and that nothing is thrown, is asked by LANGUAGE.md. */
    private static void laterCalls() {
        sentence("What it is", "what later calls answer is free.");
        PromiseWheel wheel = new PromiseWheel();
        int answered = 0;
        for (int turn = 0; turn < 3000; turn++) {
            wheel.give(1 + turn % 511, turn % 512, turn % 100);
            wheel.breakOff(turn % 41);
            wheel.move(turn % 40, 1 + turn * 7 % 511);
            wheel.pass(1 + turn % 600);
            wheel.append(1 + turn % 255);
            wheel.run();
            wheel.set(turn % 3, turn % 21);
            wheel.take(turn % 2);
            wheel.restore(turn / 3 % 2);
            wheel.next(turn % 2, 0);
            wheel.would(1 + turn % 30, turn % 3);
            wheel.undo();
            answered++;
        }
        same("all turns have ended", answered, 3000);
    }

    private static void classOfTheFace() {
        sentence("The public face", "public final class PromiseWheel {");
        Class<?> wheel = PromiseWheel.class;
        same("public and final, nothing else", wheel.getModifiers(), Modifier.PUBLIC | Modifier.FINAL);
        Check.holds("without a package", wheel.getPackageName().isEmpty());
        Check.holds("of no other class", wheel.getSuperclass() == Object.class);
        same("of no interface", wheel.getInterfaces().length, 0);
        contains("public final class PromiseWheel {");
    }

    private static void constant(String name, int value, int due) {
        sentence("The public face", "public static final int " + name + " = " + due + ";");
        same("its value", value, due);
        Field field = fieldWithName(name);
        Check.holds("it is there", field != null);
        Check.holds("an int", field != null && field.getType() == int.class);
        same("public static final", field == null ? 0 : field.getModifiers(),
                Modifier.PUBLIC | Modifier.STATIC | Modifier.FINAL);
        contains("public static final int " + name + " = " + due + ";");
    }

    private static Field fieldWithName(String name) {
        for (Field field : PromiseWheel.class.getDeclaredFields()) {
            if (field.getName().equals(name)) {
                return field;
            }
        }
        return null;
    }

    private static void constructor() {
        sentence("The public face", "public PromiseWheel();");
        Constructor<?>[] constructors = PromiseWheel.class.getDeclaredConstructors();
        same("one alone", constructors.length, 1);
        same("public", constructors[0].getModifiers(), Modifier.PUBLIC);
        same("of no parameters", constructors[0].getParameterCount(), 0);
        same("it throws nothing", constructors[0].getExceptionTypes().length, 0);
        sentence("1", "`PromiseWheel()`:");
        contains("public PromiseWheel() {");
        same("it makes one wheel after the other", new PromiseWheel().count(0), 0);
    }

    private static void inTheFace(String declared) {
        sentence("The public face", "public " + declared + ";");
        List<Method> methods = methodsWithName(nameOf(declared));
        same("one method of this name", methods.size(), 1);
        for (Method method : methods) {
            same("public, nothing else", method.getModifiers(), Modifier.PUBLIC);
            Check.holds("it returns an int", method.getReturnType() == int.class);
            same("it throws nothing", method.getExceptionTypes().length, 0);
            Check.holds("its parameters", Arrays.equals(method.getParameterTypes(), intsOf(declared)));
        }
    }

    /** The names of parameters stand in the source alone. */
    private static void inItsPromise(String declared, int promise) {
        sentence(String.valueOf(promise), "`" + declared + "`:");
        contains("public " + declared + " {");
        int[] nothing = new int[3];
        same("it answers the same to twins", new Counted().ask(nameOf(declared), nothing),
                new PlainModel().ask(nameOf(declared), nothing));
    }

    private static void nothingElse() {
        sentence("The public face", "}");
        same("methods that are not private", methodsWithName("").size(), METHODS.length);
        int fields = 0;
        for (Field field : PromiseWheel.class.getDeclaredFields()) {
            fields += Modifier.isPrivate(field.getModifiers()) ? 0 : 1;
        }
        same("fields that are not private", fields, 4);
    }

    /** These methods, and no others, stand between this line and the next one. */
    private static void ahead(String line, String... names) {
        String told = "`" + String.join("`, `", names) + "`";
        sentence("Errors", "Ahead of the calls " + told + " the interface says: ---- " + line + ".");
        String lines = "// ---- ";
        int from = source.indexOf(lines + line + "\n");
        Check.holds("the line stands in the source", from >= 0);
        if (from < 0) {
            return;
        }
        int to = source.indexOf(lines, from + 1);
        Matcher methods = METHOD.matcher(source.substring(from, to < 0 ? source.length() : to));
        List<String> found = new ArrayList<>();
        while (methods.find()) {
            found.add(methods.group(1));
        }
        Check.holds("what stands behind it: " + found, found.equals(Arrays.asList(names)));
    }

    private static void contains(String words) {
        int found = source.indexOf(words);
        Check.holds("the source says " + words, found >= 0);
        Check.holds("and says it once", source.indexOf(words, found + 1) < 0);
    }

    private static String nameOf(String declared) {
        return declared.substring("int ".length(), declared.indexOf('('));
    }

    private static Class<?>[] intsOf(String declared) {
        String parameters = declared.substring(declared.indexOf('(') + 1, declared.indexOf(')'));
        Class<?>[] types = new Class<?>[parameters.isEmpty() ? 0 : parameters.split(", ").length];
        Arrays.fill(types, int.class);
        return types;
    }

    /** Those that are not private; all of them, if no name is told. */
    private static List<Method> methodsWithName(String name) {
        List<Method> found = new ArrayList<>();
        for (Method method : PromiseWheel.class.getDeclaredMethods()) {
            boolean isAsked = name.isEmpty() || method.getName().equals(name);
            if (isAsked && !Modifier.isPrivate(method.getModifiers())) {
                found.add(method);
            }
        }
        return found;
    }
}
