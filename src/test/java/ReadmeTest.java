import java.io.ByteArrayOutputStream;
import java.io.File;
import java.io.IOException;
import java.io.PrintStream;
import java.lang.reflect.Method;
import java.lang.reflect.Modifier;
import java.nio.file.Files;
import java.nio.file.Path;
import java.util.ArrayList;
import java.util.Arrays;
import java.util.List;
import java.util.Set;
import java.util.TreeSet;
import java.util.regex.Matcher;
import java.util.regex.Pattern;

// What README.md says is so: its example answers as it says, every call of the face and every test of
// the project is told, and its commands are those of .ci/run.
public final class ReadmeTest {
    private static final Check CHECK = new Check("ReadmeTest");
    private static final Path EXAMPLE = Path.of("src/test/java/Example.java");
    private static final int PROMISES = 51;

    public static void main(String[] args) throws IOException {
        String readme = Files.readString(Path.of("README.md"));
        CHECK.due("the example stands there", blocks(readme, "java").contains(Files.readString(EXAMPLE)), true);
        askExample();
        askCalls(readme);
        askCommands(readme, Files.readString(Path.of(".ci/run")));
        askTests(readme);
        CHECK.end();
    }

    private static List<String> blocks(String page, String sort) {
        return found(page, "(?s)```" + sort + "\\n(.*?)```");
    }

    // What the first group of a pattern is, each time.
    private static List<String> found(String text, String pattern) {
        List<String> all = new ArrayList<>();
        Matcher matcher = Pattern.compile(pattern).matcher(text);
        while (matcher.find()) {
            all.add(matcher.group(1));
        }
        return all;
    }

    private static void askExample() throws IOException {
        List<String> calls = found(Files.readString(EXAMPLE), "(show\\(x.*\\); // \\S+)\\n");
        List<String> printed = linesOfExample();
        CHECK.due("calls of the example", calls.size(), printed.size());
        for (int i = 0; i < Math.min(calls.size(), printed.size()); i++) {
            CHECK.due(calls.get(i) + ", it printed " + printed.get(i), calls.get(i).endsWith("// " + printed.get(i)), true);
        }
    }

    private static List<String> linesOfExample() {
        PrintStream before = System.out;
        ByteArrayOutputStream kept = new ByteArrayOutputStream();
        System.setOut(new PrintStream(kept, true));
        Example.main(new String[0]);
        System.setOut(before);
        return kept.toString().lines().toList();
    }

    private static void askCalls(String readme) {
        Set<String> face = new TreeSet<>();
        for (Method m : SwapBook.class.getDeclaredMethods()) {
            if (Modifier.isPublic(m.getModifiers())) {
                face.add(m.getName() + " with " + m.getParameterCount());
            }
        }
        int from = readme.indexOf("### Calls");
        String part = readme.substring(from, readme.indexOf("### STATUS"));
        Set<String> told = new TreeSet<>();
        for (String call : found(part, "`(\\w+\\([^)`]*\\))`")) {
            String inside = call.substring(call.indexOf('(') + 1, call.length() - 1);
            int many = inside.isEmpty() ? 0 : inside.split(",").length;
            told.add(call.substring(0, call.indexOf('(')) + " with " + many);
        }
        CHECK.due("calls of the face " + face + ", those told " + told, face.equals(told), true);
    }

    private static void askCommands(String readme, String script) {
        String shell = String.join("", blocks(readme, "sh"));
        CHECK.due("README.md gives .ci/run", shell.lines().anyMatch(".ci/run"::equals), true);
        Set<String> given = commands(shell);
        CHECK.due(given + " are those of .ci/run " + commands(script), given.equals(commands(script)), true);
        CHECK.due("how many commands", given.size(), 4);
    }

    private static Set<String> commands(String shell) {
        Set<String> all = new TreeSet<>();
        for (String line : shell.split("\\n")) {
            if (line.strip().startsWith("java")) {
                all.add(line.replaceFirst("\\|\\|.*", "").strip());
            }
        }
        return all;
    }

    private static void askTests(String readme) {
        Set<String> files = new TreeSet<>();
        for (File file : new File("src/test/java").listFiles()) {
            if (file.getName().endsWith("Test.java")) {
                files.add(file.getName().replace(".java", ""));
            }
        }
        List<String> told = found(readme, "\\n\\| (\\w+Test) \\|");
        CHECK.due("tests " + files + ", those told " + told, files.equals(new TreeSet<>(told)), true);
        CHECK.due("each test once", told.size(), files.size());
        boolean[] plain = new boolean[PROMISES + 1];
        boolean[] edges = new boolean[PROMISES + 1];
        // Rows with more words than these are of tests that ask many promises at once, or none.
        for (String row : found(readme, "\\n\\| \\w+Test \\| ((?:boundary cases of )?[0-9, to]+) \\|(?=\\n)")) {
            noteNumbers(row.startsWith("boundary") ? edges : plain, row);
        }
        for (int promise = 1; promise <= PROMISES; promise++) {
            CHECK.due("a test of promise " + promise, plain[promise], true);
            CHECK.due("boundary cases of promise " + promise, edges[promise], true);
        }
    }

    // '3, 4, 33 to 42' are numbers and spans of numbers.
    private static void noteNumbers(boolean[] promises, String row) {
        for (String span : found(row, "(\\d+(?: to \\d+)?)")) {
            int[] ends = Arrays.stream(span.split(" to ")).mapToInt(Integer::parseInt).toArray();
            Arrays.fill(promises, ends[0], ends[ends.length - 1] + 1, true);
        }
    }
}
