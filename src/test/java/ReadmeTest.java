import java.io.IOException;
import java.lang.reflect.InvocationTargetException;
import java.lang.reflect.Method;
import java.lang.reflect.Modifier;
import java.nio.file.Files;
import java.nio.file.Path;
import java.util.Set;
import java.util.TreeSet;
import java.util.regex.Matcher;
import java.util.regex.Pattern;

/** README.md: each call that its examples show answers what stands behind it, and no call of the face is left out. */
public final class ReadmeTest {
    private static final String NEW_OBJECT = "BoxProver p = new BoxProver();";
    private static final Pattern CALL = Pattern.compile("p\\.(\\w+)\\(([^)]*)\\); +// ([-.\\w]+)(: .*)?");
    private static final Pattern TABLE_ROW = Pattern.compile("\\| `(\\w+)\\(([^)]*)\\)` \\|.*");

    private final Set<String> shown = new TreeSet<>();
    private final Set<String> told = new TreeSet<>();
    private BoxProver p;
    private int calls = 0;

    public static void main(String[] args) throws IOException {
        Due.watch();
        ReadmeTest test = new ReadmeTest();
        boolean inExample = false;
        for (String line : Files.readAllLines(Path.of("README.md"))) {
            if (line.startsWith("```")) {
                inExample = line.equals("```java");
            } else if (inExample) {
                test.example(line);
            } else {
                test.tableRow(line);
            }
        }
        test.nothingIsLeftOut();
        Due.end();
    }

    private void example(String line) {
        Matcher call = CALL.matcher(line);
        if (line.equals(NEW_OBJECT)) {
            p = new BoxProver();
        } else if (call.matches()) {
            calls++;
            shown.add(call.group(1));
            answers(call.group(1), call.group(2), call.group(3));
        } else {
            Due.is("README.md, a line that can't be read: " + line, false, true);
        }
    }

    private void answers(String name, String arguments, String due) {
        String[] texts = arguments.isEmpty() ? new String[0] : arguments.split(", ");
        Method method = ofTheFace(name, texts.length);
        String what = "README.md: " + name + "(" + arguments + "), due is " + due;
        Due.is(what + ": there is such a call", method != null && p != null, true);
        if (method == null || p == null) {
            return;
        }
        Object[] values = new Object[texts.length];
        for (int i = 0; i < values.length; i++) {
            boolean isTruth = method.getParameterTypes()[i] == boolean.class;
            values[i] = isTruth ? (Object) Boolean.valueOf(texts[i]) : (Object) Integer.valueOf(texts[i]);
        }
        try {
            String got = String.valueOf(method.invoke(p, values));
            Due.is(what + ", answered " + got, got.equals(value(due)), true);
        } catch (IllegalAccessException | InvocationTargetException e) {
            Due.is(what + ", threw " + e.getCause(), false, true);
        }
    }

    private static String value(String due) {
        switch (due) {
            case "NONE":
                return String.valueOf(BoxProver.NONE);
            case "Integer.MIN_VALUE":
                return String.valueOf(Integer.MIN_VALUE);
            case "Long.MIN_VALUE":
                return String.valueOf(Long.MIN_VALUE);
            default:
                return due;
        }
    }

    private void tableRow(String line) {
        Matcher row = TABLE_ROW.matcher(line);
        if (row.matches()) {
            told.add(row.group(1));
            int many = row.group(2).isEmpty() ? 0 : row.group(2).split(", ").length;
            Due.is("README.md, the table: " + line, ofTheFace(row.group(1), many) != null, true);
        }
    }

    private static Method ofTheFace(String name, int parameters) {
        for (Method method : BoxProver.class.getDeclaredMethods()) {
            boolean isPublic = Modifier.isPublic(method.getModifiers());
            if (isPublic && method.getName().equals(name) && method.getParameterCount() == parameters) {
                return method;
            }
        }
        return null;
    }

    private void nothingIsLeftOut() {
        for (Method method : BoxProver.class.getDeclaredMethods()) {
            if (Modifier.isPublic(method.getModifiers())) {
                Due.is("README.md shows " + method.getName(), shown.contains(method.getName()), true);
                Due.is("README.md's table has " + method.getName(), told.contains(method.getName()), true);
            }
        }
        Due.is("README.md shows calls", calls > 50, true);
    }
}
