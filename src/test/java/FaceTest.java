import java.io.IOException;
import java.lang.reflect.Constructor;
import java.lang.reflect.Field;
import java.lang.reflect.Method;
import java.lang.reflect.Modifier;
import java.nio.file.Files;
import java.nio.file.Path;
import java.util.ArrayList;
import java.util.Arrays;
import java.util.HashSet;
import java.util.List;
import java.util.Set;
import java.util.TreeSet;

/** The public face, word for word, and those rules of ../shared/LANGUAGE.md that can be seen from outside or in the text. */
public final class FaceTest {
    private static final Check C = new Check("FaceTest");

    private static final String OUT = "IndexOutOfBoundsException";
    private static final String WRONG = "IllegalArgumentException";
    private static final String STATE = "IllegalStateException";

    private static final Set<String> FACE = Set.of(
            "int block() " + STATE,
            "int line(int int int int int) " + OUT + " " + WRONG + " " + STATE,
            "int cut(int) " + OUT + " " + STATE,
            "int end(int int int int int) " + OUT + " " + WRONG,
            "int ofBlock(int int) " + OUT + " " + WRONG,
            "int form()",
            "int pass(int) " + WRONG + " " + STATE,
            "int ofPlace(int int) " + OUT + " " + WRONG,
            "int valueAt(int int) " + OUT,
            "int edge(int int) " + OUT,
            "int ofValue(int int) " + OUT + " " + WRONG,
            "int argument(int int) " + OUT,
            "int number(int int) " + OUT,
            "int run(int int)",
            "int runForm(int int) " + STATE,
            "int ofRun(int) " + WRONG,
            "int printed(int) " + OUT,
            "int cell(int) " + OUT,
            "int many(int) " + WRONG,
            "double meanCost()",
            "int wouldGo(int) " + WRONG + " " + STATE,
            "int wouldCost(int int int) " + WRONG + " " + STATE,
            "int untilStill() " + STATE,
            "boolean isAlike(int int) " + STATE,
            "long digest()");

    private static String words(Method m) {
        List<String> parts = new ArrayList<>();
        for (Class<?> p : m.getParameterTypes()) {
            parts.add(p.getSimpleName());
        }
        StringBuilder words = new StringBuilder(m.getReturnType().getSimpleName() + " " + m.getName() + "(" + String.join(" ", parts) + ")");
        for (Class<?> e : m.getExceptionTypes()) {
            words.append(' ').append(e.getSimpleName());
        }
        return words.toString();
    }

    private static void face() {
        C.part("the face");
        C.holds("PhiHall is public and final", Modifier.isPublic(PhiHall.class.getModifiers()) && Modifier.isFinal(PhiHall.class.getModifiers()));
        Set<String> found = new TreeSet<>();
        for (Method m : PhiHall.class.getDeclaredMethods()) {
            if (!Modifier.isPrivate(m.getModifiers()) && !m.isSynthetic()) {
                found.add(words(m));
                C.holds(m + " is public, and not static", Modifier.isPublic(m.getModifiers()) && !Modifier.isStatic(m.getModifiers()));
            }
        }
        C.holds("the methods are " + found, found.equals(FACE));
        Constructor<?>[] made = PhiHall.class.getDeclaredConstructors();
        C.holds("one public constructor", made.length == 1 && Modifier.isPublic(made[0].getModifiers()) && made[0].getParameterCount() == 0);
        for (Field f : PhiHall.class.getDeclaredFields()) {
            C.holds(f + " is private", Modifier.isPrivate(f.getModifiers()));
        }
    }

    private static void insides() {
        C.part("the classes inside");
        Set<String> names = new HashSet<>();
        for (Method m : PhiHall.class.getDeclaredMethods()) {
            if (Modifier.isPublic(m.getModifiers())) {
                names.add(m.getName());
            }
        }
        List<Class<?>> all = new ArrayList<>(Arrays.asList(PhiHall.class.getDeclaredClasses()));
        C.holds("at most some twelve classes", all.size() + 1 <= 12);
        all.add(PhiHall.class);
        for (Class<?> c : all) {
            boolean isOuter = c == PhiHall.class;
            C.holds(c + " is static, and private or package-visible", isOuter || Modifier.isStatic(c.getModifiers())
                    && !Modifier.isPublic(c.getModifiers()) && !Modifier.isProtected(c.getModifiers()));
            int own = 0;
            for (Field f : c.getDeclaredFields()) {
                own += Modifier.isStatic(f.getModifiers()) ? 0 : 1;
                C.holds(f + " is final, if it is static", !Modifier.isStatic(f.getModifiers()) || Modifier.isFinal(f.getModifiers()));
            }
            C.holds(c + " has at most some twenty fields", own <= 20);
            for (Method m : c.getDeclaredMethods()) {
                C.holds(m + " has a name of its own", Modifier.isPublic(m.getModifiers()) || !names.contains(m.getName()));
                C.holds(m + " has at most seven parameters", m.getParameterCount() <= 7);
            }
        }
    }

    private static void text() throws IOException {
        C.part("the text");
        List<String> lines = Files.readAllLines(Path.of("src/main/java/PhiHall.java"));
        String[] never = {"->", "::", "catch", "try {", "finally", "synchronized", "assert ", "package ", "static {", "hashCode", "toString",
            "System.out", "nanoTime", "Exact(", "Random", "instanceof"};
        int started = 0;
        for (int k = 0; k < lines.size(); k++) {
            String line = lines.get(k);
            String where = "line " + (k + 1);
            for (String word : never) {
                C.holds(where + " has no " + word, !line.contains(word));
            }
            C.holds(where + " has but signs to 126", line.chars().allMatch(c -> c >= 32 && c < 127));
            C.holds(where + " imports but Arrays", !line.startsWith("import") || line.equals("import java.util.Arrays;"));
            if (line.matches(" {4}( {4})?[^ /*@}].*\\) ?(throws .*)?\\{")) {
                started = k;
            } else if (line.equals("    }") || line.equals("        }")) {
                C.holds("the method at line " + (started + 1) + " is short", k - started <= 60 || line.equals("    }"));
            }
        }
    }

    public static void main(String[] args) throws IOException {
        face();
        insides();
        text();
        C.finish();
    }
}
