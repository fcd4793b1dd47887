import java.io.IOException;
import java.lang.reflect.Constructor;
import java.lang.reflect.Method;
import java.lang.reflect.Modifier;
import java.nio.charset.StandardCharsets;
import java.nio.file.Files;
import java.nio.file.Path;
import java.util.Arrays;
import java.util.Set;
import java.util.TreeSet;
import java.util.regex.Pattern;

/** The public face, to the letter, and the rules of LANGUAGE.md that a look at the text can tell. */
public final class FaceTest {
    private static final String INDEX = "IndexOutOfBoundsException";
    private static final String ARGUMENT = "IllegalArgumentException";
    private static final String STATE = "IllegalStateException";

    private static final Set<String> METHODS = Set.of(
            "int make(int, char, boolean) " + INDEX + " " + ARGUMENT + " " + STATE,
            "int write(int, int) " + INDEX + " " + ARGUMENT + " " + STATE,
            "int empty(int) " + INDEX + " " + STATE,
            "int move(int, int, char) " + INDEX + " " + ARGUMENT + " " + STATE,
            "int remove(int) " + INDEX,
            "boolean lock(int, boolean) " + INDEX,
            "int people(int, int) " + INDEX + " " + ARGUMENT,
            "boolean mayRead(int, int) " + INDEX,
            "int nodes()",
            "int watch(int) " + INDEX + " " + STATE,
            "int notices(int) " + INDEX,
            "int twice(int) " + INDEX + " " + STATE,
            "int lose(int, int) " + INDEX + " " + ARGUMENT,
            "int pass(int) " + ARGUMENT + " " + STATE,
            "boolean battery(boolean)",
            "int limits(int, int) " + ARGUMENT,
            "int work(int) " + ARGUMENT,
            "int crawl(int) " + INDEX,
            "int acts()",
            "boolean isQuiet()",
            "int entries()",
            "int edition(int) " + INDEX,
            "int stale()",
            "int segments()",
            "int dead()",
            "int answers(int, int, int, int) " + INDEX + " " + ARGUMENT,
            "int answersAnew(int, int, int, int) " + INDEX + " " + ARGUMENT,
            "int answer(int, int, int, int) " + INDEX + " " + ARGUMENT,
            "int closest(int, int, int, int) " + INDEX + " " + ARGUMENT);

    private static final String[] FORBIDDEN = {
        "->", "::", "\\bimport\\b", "\\bpackage\\b", "\\bfinally\\b", "\\bsynchronized\\b",
        "\\bassert\\b", "\\bcatch\\b", "\\bLong\\b", "\\bSystem\\b", "MAX_VALUE", "MIN_VALUE",
        "Exact\\(", "\\bString\\b", "[\"] *\\+", "\\+ *[\"]", "\\bvar\\b", "\\bstatic *\\{", "\\bprotected\\b",
        "[^\\x00-\\x7e]",
    };

    public static void main(String[] args) throws IOException {
        members();
        constants();
        text();
        Check.end("FaceTest");
    }

    private static void same(String what, boolean isFine) {
        Check.same(what, 1, isFine ? 1 : 0);
    }

    private static void members() {
        Class<SearchKeeper> face = SearchKeeper.class;
        same("public and final", Modifier.isPublic(face.getModifiers())
                && Modifier.isFinal(face.getModifiers()));
        Set<String> names = new TreeSet<>();
        Set<String> hidden = new TreeSet<>();
        for (Method method : face.getDeclaredMethods()) {
            if (Modifier.isPrivate(method.getModifiers())) {
                hidden.add(method.getName());
                continue;
            }
            names.add(method.getName());
            same("a method of the face: " + line(method), METHODS.contains(line(method)));
            same("public: " + method, Modifier.isPublic(method.getModifiers()));
        }
        Check.same("methods", METHODS.size(), names.size());
        hidden.retainAll(names);
        same("no private method bears a public name: " + hidden, hidden.isEmpty());
        Constructor<?>[] constructors = face.getDeclaredConstructors();
        Check.same("constructors", 1, constructors.length);
        Check.same("its arguments", 0, constructors[0].getParameterCount());
        same("it is public", Modifier.isPublic(constructors[0].getModifiers()));
    }

    private static String line(Method method) {
        StringBuilder line = new StringBuilder(method.getReturnType() + " " + method.getName() + "(");
        String between = "";
        for (Class<?> type : method.getParameterTypes()) {
            line.append(between).append(type);
            between = ", ";
        }
        line.append(")");
        for (Class<?> type : method.getExceptionTypes()) {
            line.append(" ").append(type.getSimpleName());
        }
        return line.toString();
    }

    private static void constants() {
        Check.same("NONE", -1, SearchKeeper.NONE);
        Check.same("OPEN", -2, SearchKeeper.OPEN);
        Check.same("CLOSE", -3, SearchKeeper.CLOSE);
        Check.same("fields of the face", 3, SearchKeeper.class.getFields().length);
        Check.same("fields that are neither public nor private", 0,
                Arrays.stream(SearchKeeper.class.getDeclaredFields())
                        .filter(f -> !Modifier.isPublic(f.getModifiers()))
                        .filter(f -> !Modifier.isPrivate(f.getModifiers())).count());
    }

    private static void text() throws IOException {
        Path file = Path.of("src/main/java/SearchKeeper.java");
        String code = Files.readString(file, StandardCharsets.ISO_8859_1)
                .replaceAll("(?s)/\\*.*?\\*/", "").replaceAll("//[^\\n]*", "");
        for (String forbidden : FORBIDDEN) {
            same("none of " + forbidden, !Pattern.compile(forbidden).matcher(code).find());
        }
        same("at most some twelve classes", code.split("\\bclass\\b").length - 1 <= 12);
    }
}
