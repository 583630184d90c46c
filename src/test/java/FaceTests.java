import java.io.IOException;
import java.lang.reflect.Constructor;
import java.lang.reflect.Field;
import java.lang.reflect.Method;
import java.lang.reflect.Modifier;
import java.nio.file.Files;
import java.nio.file.Path;
import java.util.Set;
import java.util.TreeSet;
import java.util.regex.Matcher;
import java.util.regex.Pattern;
import java.util.stream.Stream;

/** The face of the class is that of the document, and the source keeps the rules that can be read off it. */
public final class FaceTests {
    /** The face of the document; behind each method the exceptions that it names, in their order. */
    private static final String[] METHODS = {
        "int feed(int, int, int, int, int)", "boolean end(int)", "int kind() ARGUMENT", "int told() ARGUMENT",
        "int fault()", "int level(int) INDEX", "int net(int, int, int) INDEX ELEMENT",
        "boolean joined(int, int, int, int) INDEX", "int orbit(int, int, int) INDEX",
        "int child(int, int, int) INDEX", "int grown(int, int, int, boolean) INDEX ARGUMENT STATE",
        "boolean taken(int, int, int, boolean) INDEX ARGUMENT STATE", "int deck(int, int, int) INDEX STATE",
        "int other(int, int) INDEX", "int within(int, int, int, int) INDEX", "int rooted(int) INDEX",
        "int turned(int, int, int, int) INDEX ARGUMENT", "int apart(int, int, int) INDEX",
        "int common(int, int, int, int) INDEX", "int lines(int, int) INDEX", "int twins(int) INDEX STATE",
        "long named(int) INDEX", "long cycles(int, int) ARGUMENT", "int full(int)", "int form(int) ELEMENT STATE",
        "int order(int) STATE INDEX", "int share(int, int, int) ARGUMENT",
        "int start(int, int, int, int) INDEX ARGUMENT", "int next(int) INDEX STATE",
        "int walker(int, int) INDEX ELEMENT STATE", "int resume(int, int) INDEX STATE ARGUMENT",
        "int text(int, int) INDEX", "int octet(int)", "void image()", "boolean back()", "int count(int)",
    };
    private static final String[] BANNED = {
        "->", "::", "\\btry\\b", "\\bcatch\\b", "\\bfinally\\b", "\\bassert\\b", "\\bsynchronized\\b", "Exact\\(",
        "\\bvar\\b", "\\bObject\\b", "\\bprotected\\b", "hashCode", "toString", "\\bfloat\\b", "\\bdouble\\b",
        "\" \\+", "\\+ \"", "\\+=? String", "System\\.(?!arraycopy)", "nanoTime", "Random",
    };

    public static void main(String[] args) throws IOException {
        members();
        nested();
        eachPromiseHasTests();
        source(Files.readString(Path.of("src/main/java/OrderlyNets.java")));
        Checks.end("FaceTests");
    }

    private static void members() {
        Class<OrderlyNets> face = OrderlyNets.class;
        Checks.holds("public and final", Modifier.isPublic(face.getModifiers()) && Modifier.isFinal(face.getModifiers()));
        Set<String> want = new TreeSet<>(Set.of(METHODS));
        Set<String> got = new TreeSet<>();
        for (Method method : face.getDeclaredMethods()) {
            if (Modifier.isPublic(method.getModifiers())) {
                StringBuilder shown = new StringBuilder();
                for (Class<?> type : method.getParameterTypes()) {
                    shown.append(shown.length() == 0 ? "" : ", ").append(type);
                }
                got.add(method.getReturnType() + " " + method.getName() + "(" + shown + ")" + exceptions(method));
            } else {
                Checks.holds(method + " is private", Modifier.isPrivate(method.getModifiers()));
            }
        }
        Checks.holds("the methods are " + got, got.equals(want));
        for (Constructor<?> constructor : face.getDeclaredConstructors()) {
            Checks.holds("the constructor", Modifier.isPublic(constructor.getModifiers()));
            Checks.due("its parameters", constructor.getParameterCount(), 0);
        }
        for (Field field : face.getDeclaredFields()) {
            boolean isPublic = Modifier.isPublic(field.getModifiers());
            Checks.holds(field + " is private", isPublic || Modifier.isPrivate(field.getModifiers()));
            Checks.due(field + " is public", isPublic ? 1 : 0, field.getName().equals("NONE") ? 1 : 0);
        }
    }

    private static String exceptions(Method method) {
        StringBuilder shown = new StringBuilder();
        for (Class<?> type : method.getExceptionTypes()) {
            shown.append(type == Checks.INDEX ? " INDEX" : type == Checks.ARGUMENT ? " ARGUMENT"
                    : type == Checks.STATE ? " STATE" : type == Checks.ELEMENT ? " ELEMENT" : " " + type);
        }
        return shown.toString();
    }

    /** Each promise has tests that bear its number. */
    private static void eachPromiseHasTests() throws IOException {
        StringBuilder all = new StringBuilder();
        try (Stream<Path> files = Files.list(Path.of("src/test/java"))) {
            for (Path file : files.filter(path -> path.toString().endsWith("Tests.java")).toList()) {
                all.append(Files.readString(file));
            }
        }
        for (int promise = 1; promise <= 37; promise++) {
            String named = String.format("static void promise%02d_", promise);
            Checks.holds("there is a " + named, all.indexOf(named) >= 0);
        }
    }

    /** No method that is not static calls itself: it goes through another private one. */
    private static void recursion(String code) {
        Matcher method = Pattern.compile("\n {8}(?!.*static).*?(\\w+)\\([^;{}]*\\) \\{\n((?s).*?)\n {8}\\}").matcher(code);
        while (method.find()) {
            String name = method.group(1);
            boolean calls = Pattern.compile("(?<![\\w.])" + name + "\\(").matcher(method.group(2)).find();
            Checks.fails(name + " calls itself", calls);
        }
    }

    private static void nested() {
        Set<String> names = new TreeSet<>();
        for (String method : METHODS) {
            names.add(method.substring(method.indexOf(' ') + 1, method.indexOf('(')));
        }
        Class<?>[] classes = OrderlyNets.class.getDeclaredClasses();
        Checks.holds("few classes", classes.length < 13);
        for (Class<?> inside : classes) {
            Checks.holds(inside + " is static", Modifier.isStatic(inside.getModifiers()));
            Checks.holds(inside + " is not public", !Modifier.isPublic(inside.getModifiers()));
            int fields = 0;
            for (Field field : inside.getDeclaredFields()) {
                boolean isStatic = Modifier.isStatic(field.getModifiers());
                fields += isStatic ? 0 : 1;
                Checks.holds(field + " is final", !isStatic || Modifier.isFinal(field.getModifiers()));
            }
            Checks.holds(inside + " has few fields", fields <= 20);
            for (Method method : inside.getDeclaredMethods()) {
                Checks.holds(method + " has a name of its own", !names.contains(method.getName()));
                Checks.holds(method + " has few parameters", method.getParameterCount() <= 7);
            }
        }
        for (Method method : OrderlyNets.class.getDeclaredMethods()) {
            boolean isPrivate = Modifier.isPrivate(method.getModifiers());
            Checks.holds(method + " has a name of its own", !isPrivate || !names.contains(method.getName()));
        }
    }

    private static void source(String text) {
        String code = text.replaceAll("(?s)/\\*.*?\\*/", "").replaceAll("//.*", "");
        for (String banned : BANNED) {
            Matcher found = Pattern.compile(banned).matcher(code);
            Checks.fails("the source has " + banned, found.find());
        }
        recursion(code);
        int last = 0;
        int length = 0;
        for (String line : text.split("\n")) {
            Checks.holds("a short line: " + line, line.length() <= 120);
            length++;
            if (line.matches(" {4,8}[a-z].*\\(.*\\{")) {
                last = length;
            }
            if (line.matches(" {4,8}\\}")) {
                Checks.holds("a short method ends at line " + length, length - last < 61 || last == 0);
                last = 0;
            }
        }
    }
}
