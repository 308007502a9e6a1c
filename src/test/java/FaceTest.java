import java.io.IOException;
import java.lang.reflect.Constructor;
import java.lang.reflect.Executable;
import java.lang.reflect.Field;
import java.lang.reflect.Method;
import java.lang.reflect.Modifier;
import java.nio.file.Files;
import java.nio.file.Path;
import java.util.Arrays;
import java.util.List;
import java.util.Set;
import java.util.TreeSet;
import java.util.regex.Matcher;
import java.util.regex.Pattern;

/** The public face, and the rules of LANGUAGE.md that a machine can look at. */
public final class FaceTest {
    private static final List<String> METHODS = List.of(
        "int row(int, int, int, int, int, int)", "int push()", "int pop()", "int ofRow(int, int)",
        "boolean decide()", "int first(int)", "int solutions()", "int range(int, boolean)",
        "int assume(int, boolean)", "int bound(int, boolean)", "int add(int, int, int, int)",
        "int divide(int, int)", "int split(int, int)", "int close(int)", "int finish()", "int lines()",
        "long line(int, int)", "int ofSplit(int, int)", "int count(int)");
    private static final List<String> NOT_IN_THE_SOURCE = List.of(
        "import ", "package ", "->", "::", "Exact(", "synchronized", "assert ", "catch", "finally",
        "System.nanoTime", "System.currentTimeMillis", "Random", "Thread");

    /** Names of the library that rule 4 has and the class uses; another that rule 4 has may be added. */
    private static final Set<String> LIBRARY = Set.of(
        "Math.abs", "Math.floorDiv", "Math.max", "Math.min", "Integer.MIN_VALUE", "Long.MIN_VALUE");
    private static final Pattern NAME = Pattern.compile("\\b([A-Z]\\w*[a-z]\\w*)\\.(\\w+)");
    private static final int LONGEST_METHOD = 60;

    public static void main(String[] args) throws IOException {
        Due.watch();
        theFaceIsTheDocuments();
        noneIsAConstant();
        theRulesAreKept();
        theSourceIsPlain();
        methodsAreShort();
        Due.end();
    }

    private static String told(Method method) {
        StringBuilder text = new StringBuilder(method.getReturnType().getSimpleName());
        text.append(' ').append(method.getName()).append('(');
        String between = "";
        for (Class<?> type : method.getParameterTypes()) {
            text.append(between).append(type.getSimpleName());
            between = ", ";
        }
        return text.append(')').toString();
    }

    private static void theFaceIsTheDocuments() {
        Class<?> face = BoxProver.class;
        Due.is("public and final", face.getModifiers(), Modifier.PUBLIC | Modifier.FINAL);
        Due.is("it extends nothing", face.getSuperclass() == Object.class, true);
        Due.is("it implements nothing", face.getInterfaces().length, 0);
        Set<String> seen = new TreeSet<>();
        for (Method method : face.getDeclaredMethods()) {
            if (Modifier.isPrivate(method.getModifiers())) {
                Due.is("a private method's name: " + told(method), isFaceName(method.getName()), false);
            } else {
                Due.is("public: " + told(method), method.getModifiers(), Modifier.PUBLIC);
                Due.is("throws nothing: " + told(method), method.getExceptionTypes().length, 0);
                seen.add(told(method));
            }
        }
        Due.is("the methods are those of the document", seen.equals(new TreeSet<>(METHODS)), true);
        Constructor<?>[] constructors = face.getDeclaredConstructors();
        Due.is("constructors", constructors.length, 1);
        Due.is("a public constructor", constructors[0].getModifiers(), Modifier.PUBLIC);
        Due.is("without parameters", constructors[0].getParameterCount(), 0);
        for (Field field : face.getDeclaredFields()) {
            boolean isPrivate = Modifier.isPrivate(field.getModifiers());
            Due.is("private: " + field.getName(), isPrivate, !field.getName().equals("NONE"));
        }
    }

    private static void noneIsAConstant() {
        boolean seen = false;
        for (Field field : BoxProver.class.getFields()) {
            seen |= field.getName().equals("NONE") && field.getType() == int.class
                && field.getModifiers() == (Modifier.PUBLIC | Modifier.STATIC | Modifier.FINAL);
        }
        Due.is("public static final int NONE", seen, true);
        Due.is("NONE", BoxProver.NONE, -1);
    }

    private static boolean isFaceName(String name) {
        for (String method : METHODS) {
            if (method.contains(" " + name + "(")) {
                return true;
            }
        }
        return false;
    }

    private static void theRulesAreKept() {
        Class<?>[] inside = BoxProver.class.getDeclaredClasses();
        Due.is("rule 11: classes", inside.length <= 11, true);
        Class<?>[] all = Arrays.copyOf(inside, inside.length + 1);
        all[inside.length] = BoxProver.class;
        for (Class<?> type : all) {
            int fields = 0;
            for (Field field : type.getDeclaredFields()) {
                boolean isStatic = Modifier.isStatic(field.getModifiers());
                Due.is("rule 5: " + field, !isStatic || Modifier.isFinal(field.getModifiers()), true);
                fields += isStatic ? 0 : 1;
            }
            Due.is("rule 11: fields of " + type, fields <= 20, true);
            for (Executable method : type.getDeclaredMethods()) {
                Due.is("rule 11: parameters of " + method, method.getParameterCount() <= 7, true);
            }
        }
        for (Class<?> type : inside) {
            int modifiers = type.getModifiers();
            boolean isShown = Modifier.isPublic(modifiers) || Modifier.isProtected(modifiers);
            Due.is("rule 1: static: " + type, Modifier.isStatic(modifiers), true);
            Due.is("rule 1: private or package-visible: " + type, isShown, false);
        }
    }

    private static Path source() {
        return Path.of("src", "main", "java", "BoxProver.java");
    }

    private static void theSourceIsPlain() throws IOException {
        String source = Files.readString(source());
        for (String text : NOT_IN_THE_SOURCE) {
            Due.is("the source holds '" + text + "'", source.contains(text), false);
        }
        Set<String> own = new TreeSet<>();
        for (Class<?> type : BoxProver.class.getDeclaredClasses()) {
            own.add(type.getSimpleName());
        }
        Matcher name = NAME.matcher(source);
        while (name.find()) {
            Due.is("rule 4: " + name.group(), own.contains(name.group(1)) || LIBRARY.contains(name.group()), true);
        }
    }

    /** A method begins with a line that ends with "{" and ends with the next "}" that stands as far in. */
    private static void methodsAreShort() throws IOException {
        List<String> lines = Files.readAllLines(source());
        int methods = 0;
        for (int i = 0; i < lines.size(); i++) {
            String line = lines.get(i);
            String in = line.substring(0, line.length() - line.stripLeading().length());
            if (in.length() > 8 || !line.endsWith(") {")) {
                continue;
            }
            int end = i;
            while (end < lines.size() && !lines.get(end).equals(in + "}")) {
                end++;
            }
            methods++;
            Due.is("rule 11: a short method: " + line.strip(), end - i + 1 <= LONGEST_METHOD, true);
        }
        Due.is("methods were found", methods >= METHODS.size(), true);
    }
}
