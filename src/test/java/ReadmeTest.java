import java.io.IOException;
import java.lang.reflect.Method;
import java.nio.file.Files;
import java.nio.file.Path;
import java.util.ArrayList;
import java.util.List;
import java.util.Map;
import java.util.regex.Matcher;
import java.util.regex.Pattern;
import java.util.stream.Stream;

/** What README.md says is so: its example is run, and it names every call, class and test. Runs in the project's folder. */
public final class ReadmeTest {
    private static final Path TESTS = Path.of("src/test/java");
    private static final Map<String, Integer> NAMED = Map.of("BAD", -1, "STATE", -2, "FULL", -3, "NONE", -4);
    private static final Pattern CALL = Pattern.compile("x\\.(\\w+)\\(([^)]*)\\); *// (-?\\w+)(: .*)?");
    private static final Pattern TEXT = Pattern.compile("put\\(x, \"([^\"]*)\"\\);");
    private static final Pattern MAKER = Pattern.compile("(WhistledWords )?x = new WhistledWords\\(\\);");

    private static int run = 0;

    public static void main(String[] args) throws IOException, ReflectiveOperationException {
        String readme = Files.readString(Path.of("README.md"));
        List<String> blocks = blocks(readme);
        Due.that("README.md has two blocks of java", blocks.size() == 2);
        example(blocks.get(0));
        Due.that("the example has calls with their answers", run > 30);
        putter(blocks.get(1));
        calls(readme);
        classes(readme);
        tests(readme);
        Due.finish();
    }

    private static List<String> blocks(String readme) {
        List<String> found = new ArrayList<>();
        Matcher m = Pattern.compile("(?s)```java\n(.*?)```").matcher(readme);
        while (m.find()) {
            found.add(m.group(1));
        }
        return found;
    }

    /** A line is an object made, a text put on THE TAPE, a call with its answer, or a remark. */
    private static void example(String block) throws ReflectiveOperationException {
        WhistledWords x = new WhistledWords();
        for (String line : block.split("\n")) {
            Matcher call = CALL.matcher(line);
            Matcher text = TEXT.matcher(line);
            if (call.matches()) {
                answers(x, line, call);
            } else if (text.matches()) {
                Due.put(x, text.group(1));
            } else if (MAKER.matcher(line).matches()) {
                x = new WhistledWords();
            } else {
                boolean silent = line.isEmpty() || line.startsWith("// ") || line.equals("final int NONE = WhistledWords.NONE;");
                Due.that("README.md's example has the line: " + line, silent);
            }
        }
    }

    private static void answers(WhistledWords x, String line, Matcher call) throws ReflectiveOperationException {
        Method method = methodOf(call.group(1));
        String[] said = call.group(2).isEmpty() ? new String[0] : call.group(2).split(", ");
        Class<?>[] types = method == null ? new Class<?>[0] : method.getParameterTypes();
        if (method == null || said.length != types.length) {
            Due.that("the class has the call of: " + line, false);
            return;
        }
        Object[] given = new Object[said.length];
        for (int i = 0; i < said.length; i++) {
            given[i] = types[i] == boolean.class ? (Object) said[i].equals("true") : (Object) number(said[i]);
        }
        run++;
        Due.is(0, "README.md's " + line, (int) method.invoke(x, given), number(call.group(3)));
    }

    private static int number(String said) {
        return NAMED.containsKey(said) ? NAMED.get(said) : Integer.parseInt(said);
    }

    private static Method methodOf(String name) {
        for (Method m : WhistledWords.class.getDeclaredMethods()) {
            if (m.getName().equals(name)) {
                return m;
            }
        }
        return null;
    }

    /** The tests put their texts on THE TAPE by the same lines, so that those are tried out. */
    private static void putter(String block) throws IOException {
        String mine = Files.readString(TESTS.resolve("Due.java")).replaceAll("\\s+", " ");
        Due.that("put of README.md is put of Due.java", mine.contains(block.replaceAll("\\s+", " ").trim()));
    }

    /** The table has each call of the program's text, with the parameters' names. */
    private static void calls(String readme) throws IOException {
        String program = Files.readString(Path.of("src/main/java/WhistledWords.java"));
        Matcher m = Pattern.compile("\n    public int (\\w+\\([^)]*\\)) \\{").matcher(program);
        int found = 0;
        while (m.find()) {
            String call = m.group(1).replaceAll("\\b(int|long|boolean) ", "");
            Due.that("README.md names `" + call + "`", readme.contains("`" + call + "`"));
            found++;
        }
        Due.is(0, "calls of the face", found, 33);
    }

    private static void classes(String readme) {
        for (Class<?> c : WhistledWords.class.getDeclaredClasses()) {
            Due.that("README.md names the class " + c.getSimpleName(), readme.contains("`" + c.getSimpleName() + "`"));
        }
    }

    private static void tests(String readme) throws IOException {
        try (Stream<Path> files = Files.list(TESTS)) {
            for (Path file : files.sorted().toList()) {
                String name = file.getFileName().toString().replace(".java", "");
                Due.that("README.md names the test " + name, name.equals("Due") || readme.contains("`" + name + "`"));
            }
        }
        Matcher m = Pattern.compile("`(\\w+(?:Test|Edges))`").matcher(readme);
        while (m.find()) {
            Due.that("there is the test " + m.group(1), Files.exists(TESTS.resolve(m.group(1) + ".java")));
        }
        Due.that(".ci/run is executable", Files.isExecutable(Path.of(".ci/run")));
    }
}
