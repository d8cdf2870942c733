import java.io.IOException;
import java.lang.reflect.InvocationTargetException;
import java.lang.reflect.Method;
import java.lang.reflect.Modifier;
import java.nio.file.Files;
import java.nio.file.Path;
import java.util.HashSet;
import java.util.List;
import java.util.Set;
import java.util.regex.Matcher;
import java.util.regex.Pattern;

/** README.md: its example answers what stands behind each call, and each call of the face is in it. */
public final class ReadmeTest {
    private static final Check C = new Check("ReadmeTest");
    private static final Pattern CALL = Pattern.compile("x\\.(\\w+)\\(([-0-9, ]*)\\); +// (-?[0-9.]*[0-9]|true|false)(:.*)?");

    private static Method methodOf(String name) {
        for (Method m : PhiHall.class.getDeclaredMethods()) {
            if (Modifier.isPublic(m.getModifiers()) && m.getName().equals(name)) {
                return m;
            }
        }
        throw new IllegalStateException("the face has no " + name);
    }

    private static Object[] numbersOf(String words) {
        if (words.isBlank()) {
            return new Object[0];
        }
        String[] parts = words.split(", ");
        Object[] numbers = new Object[parts.length];
        for (int k = 0; k < parts.length; k++) {
            numbers[k] = Integer.valueOf(parts[k]);
        }
        return numbers;
    }

    private static String answer(PhiHall x, String name, String words) throws IllegalAccessException {
        try {
            return String.valueOf(methodOf(name).invoke(x, numbersOf(words)));
        } catch (InvocationTargetException e) {
            return e.getCause().toString();
        }
    }

    private static Set<String> example(List<String> lines) throws IllegalAccessException {
        C.part("the example");
        Set<String> called = new HashSet<>();
        PhiHall x = null;
        boolean isJava = false;
        for (String line : lines) {
            if (line.startsWith("```")) {
                isJava = line.equals("```java");
                continue;
            }
            if (!isJava || line.isBlank()) {
                continue;
            }
            if (line.startsWith("PhiHall x = new PhiHall();")) {
                x = new PhiHall();
                continue;
            }
            Matcher call = CALL.matcher(line);
            boolean isCall = x != null && call.matches();
            C.holds("'" + line + "' is a call with its answer", isCall);
            if (isCall) {
                String got = answer(x, call.group(1), call.group(2));
                C.holds(line + " answered " + got, got.equals(call.group(3)));
                called.add(call.group(1));
            }
        }
        return called;
    }

    private static void eachCall(List<String> lines, Set<String> called) {
        C.part("each call");
        for (Method m : PhiHall.class.getDeclaredMethods()) {
            if (!Modifier.isPublic(m.getModifiers())) {
                continue;
            }
            C.holds(m.getName() + " is in the example", called.contains(m.getName()));
            int rows = 0;
            for (String line : lines) {
                boolean isRow = line.matches("\\| `" + m.getName() + "\\([a-z, ]*\\)` \\|.*");
                rows += isRow ? 1 : 0;
                if (isRow) {
                    isAsTheFace(m, line);
                }
            }
            C.is("rows of " + m.getName(), rows, 1);
        }
    }

    /** A row: the call with its arguments, what it answers, and in which ways it is refused. */
    private static void isAsTheFace(Method m, String row) {
        String words = row.substring(row.indexOf('(') + 1, row.indexOf(')'));
        C.is("arguments of " + m.getName(), words.isEmpty() ? 0 : words.split(", ").length, m.getParameterCount());
        StringBuilder refused = new StringBuilder();
        for (Class<?> e : m.getExceptionTypes()) {
            boolean isOut = e == IndexOutOfBoundsException.class;
            refused.append(refused.length() == 0 ? "" : ", ").append(isOut ? "out" : e == IllegalArgumentException.class ? "wrong" : "state");
        }
        String[] cells = row.split("\\|");
        C.holds(m.getName() + " is refused as " + refused, cells[cells.length - 1].trim().contentEquals(refused));
    }

    public static void main(String[] args) throws IOException, IllegalAccessException {
        List<String> lines = Files.readAllLines(Path.of("README.md"));
        eachCall(lines, example(lines));
        C.finish();
    }
}
