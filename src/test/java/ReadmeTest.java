import java.io.IOException;
import java.lang.reflect.Method;
import java.nio.charset.StandardCharsets;
import java.nio.file.Files;
import java.nio.file.Path;
import java.util.ArrayList;
import java.util.HashMap;
import java.util.HashSet;
import java.util.List;
import java.util.Map;
import java.util.Set;
import java.util.regex.Matcher;
import java.util.regex.Pattern;

/** README.md: its example answers what it says, and its tables name each call as the class has it. */
public final class ReadmeTest {
    private static final Pattern STEP = Pattern.compile(
            "(?:int (\\w+) = )?keeper\\.(\\w+)\\((.*)\\); +// (-?\\d+): .+");
    private static final Pattern CALL = Pattern.compile("`(\\w+)\\(([^)]*)\\)`");
    private static final Pattern REASON = Pattern.compile("(index|argument|state): ");
    private static final Pattern DECLARED = Pattern.compile(
            "public (?:int|boolean) (\\w+)\\(([^)]*)\\)\\s*(?:throws ([\\w, ]+))?");
    private static final Map<String, String> EXCEPTIONS = Map.of(
            "IndexOutOfBoundsException", "index",
            "IllegalArgumentException", "argument",
            "IllegalStateException", "state");

    public static void main(String[] args) throws IOException, ReflectiveOperationException {
        String readme = Files.readString(Path.of("README.md"), StandardCharsets.UTF_8);
        example(readme);
        tables(readme, declared());
        Check.end("ReadmeTest");
    }

    private static void same(String what, boolean isFine) {
        Check.same("README.md: " + what, 1, isFine ? 1 : 0);
    }

    // ---- the example

    private static void example(String readme) throws ReflectiveOperationException {
        int begin = readme.indexOf("```java\n") + "```java\n".length();
        String[] lines = readme.substring(begin, readme.indexOf("```\n", begin)).split("\n");
        same("the example begins with an object",
                lines[0].equals("SearchKeeper keeper = new SearchKeeper();"));
        SearchKeeper keeper = new SearchKeeper();
        Map<String, Integer> variables = new HashMap<>();
        for (int i = 1; i < lines.length; i++) {
            Matcher step = STEP.matcher(lines[i]);
            same("a call and its answer: " + lines[i], step.matches());
            if (step.matches()) {
                String told = step.group(3);
                String[] values = told.isEmpty() ? new String[0] : told.split(", ");
                int answer = called(keeper, step.group(2), values, variables);
                Check.same("README.md: " + lines[i], Integer.parseInt(step.group(4)), answer);
                if (step.group(1) != null) {
                    variables.put(step.group(1), answer);
                }
            }
        }
    }

    private static int called(SearchKeeper keeper, String name, String[] told,
            Map<String, Integer> variables) throws ReflectiveOperationException {
        for (Method method : SearchKeeper.class.getMethods()) {
            if (method.getName().equals(name) && method.getParameterCount() == told.length) {
                Object[] values = new Object[told.length];
                for (int i = 0; i < told.length; i++) {
                    values[i] = value(told[i], variables);
                }
                return (Integer) method.invoke(keeper, values);
            }
        }
        throw new NoSuchMethodException(name);
    }

    private static Object value(String told, Map<String, Integer> variables) {
        if (variables.containsKey(told)) {
            return variables.get(told);
        }
        if (told.equals("SearchKeeper.NONE")) {
            return SearchKeeper.NONE;
        }
        if (told.equals("true") || told.equals("false")) {
            return told.equals("true");
        }
        if (told.startsWith("'")) {
            return told.charAt(1);
        }
        return Integer.valueOf(told);
    }

    // ---- the tables

    /** Of each call, as the class declares it, what it takes and what it throws. */
    private static Map<String, String> declared() throws IOException {
        String code = Files.readString(Path.of("src/main/java/SearchKeeper.java"),
                StandardCharsets.UTF_8);
        Map<String, String> calls = new HashMap<>();
        Matcher found = DECLARED.matcher(code);
        while (found.find()) {
            List<String> thrown = new ArrayList<>();
            for (String each : found.group(3) == null ? new String[0] : found.group(3).split(",")) {
                thrown.add(EXCEPTIONS.get(each.trim()));
            }
            String names = found.group(2).replaceAll("(?:int|char|boolean) ", "");
            calls.put(found.group(1), names + " " + thrown);
        }
        return calls;
    }

    private static void tables(String readme, Map<String, String> declared) {
        Set<String> told = new HashSet<>();
        for (String line : readme.split("\n")) {
            String[] cells = line.split("\\|", -1);
            Matcher call = CALL.matcher(cells.length == 6 ? cells[1].trim() : "");
            if (!call.matches()) {
                continue;
            }
            String name = call.group(1);
            same("one row for " + name, told.add(name));
            List<String> thrown = new ArrayList<>();
            Matcher reason = REASON.matcher(cells[4]);
            while (reason.find()) {
                thrown.add(reason.group(1));
            }
            String row = call.group(2) + " " + thrown;
            same(name + " takes and throws " + declared.get(name) + ", told is " + row,
                    row.equals(declared.get(name)));
            same("what it takes: " + name, call.group(2).isEmpty() == cells[2].isBlank());
            same("what it answers: " + name, !cells[3].isBlank());
        }
        Check.same("README.md: calls that it tells of", 29, told.size());
        same("they are those of the class", told.equals(declared.keySet()));
    }
}
