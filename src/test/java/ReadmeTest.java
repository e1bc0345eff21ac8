import java.io.File;
import java.io.IOException;
import java.net.URL;
import java.net.URLClassLoader;
import java.nio.file.Files;
import java.nio.file.Path;
import java.util.ArrayList;
import java.util.Arrays;
import java.util.List;
import java.util.Map;
import java.util.TreeMap;
import java.util.regex.Matcher;
import java.util.regex.Pattern;
import java.util.spi.ToolProvider;
import java.util.stream.Stream;

/**
 * README.md tells the truth: its examples compile and have the answers that it tells, its table has the document's calls
 * and error codes, and its list has every test. Runs in the project's folder.
 */
public final class ReadmeTest {
    private static final Path README = Path.of("README.md");
    private static final Path DOCUMENT = Path.of("../shared/DOC.md");
    private static final Path TESTS = Path.of("src/test/java");
    private static final String CLASS = "PoolRenumberer";
    private static final Pattern EXAMPLE = Pattern.compile("```java\n(.*?)```", Pattern.DOTALL);
    private static final Pattern ANSWERED = Pattern.compile("(x\\.\\w+\\([^;]*\\));\\s+// (-?\\d+): .+");
    private static final Pattern CODE = Pattern.compile("INVALID_ARGUMENT|ILLEGAL_STATE|CAPACITY_EXCEEDED|NONE");

    public static void main(String[] args) throws Exception {
        String readme = Files.readString(README);
        String document = Files.readString(DOCUMENT);
        examples(readme);
        constants(readme);
        calls(readme, document);
        savingCalls(readme, document);
        tests(readme);
        Due.end();
    }

    private static void examples(String readme) throws Exception {
        Matcher matcher = EXAMPLE.matcher(readme);
        int found = 0;
        int answered = 0;
        while (matcher.find()) {
            found++;
            List<String> lines = matcher.group(1).lines().toList();
            Due.isTrue("example " + found + " makes an object", lines.get(0).equals("PoolRenumberer x = new PoolRenumberer();"));
            answered += example(found, lines, CLASS);
            example(found, lines, "Model");
        }
        Due.isTrue("README.md has examples", found > 0 && answered > 0);
    }

    /** Runs an example on the class or on the model, and compares the answers; answers how many there were. */
    private static int example(int number, List<String> lines, String on) throws Exception {
        List<String> calls = new ArrayList<>();
        List<Integer> told = new ArrayList<>();
        StringBuilder code = new StringBuilder();
        for (String line : lines) {
            Matcher matcher = ANSWERED.matcher(line);
            if (matcher.matches()) {
                calls.add(matcher.group(1));
                told.add(Integer.parseInt(matcher.group(2)));
                code.append("answers.add(").append(matcher.group(1)).append(");\n");
            } else {
                Due.isTrue("example " + number + " tells the answer of " + line, !line.contains("//") && !line.startsWith("x."));
                code.append(line.replace(CLASS, on)).append('\n');
            }
        }
        List<?> got = run("Example" + number + on, code.toString());
        Due.is("answers in example " + number, got.size(), told.size());
        for (int i = 0; i < told.size() && i < got.size(); i++) {
            Due.is("README.md, example " + number + ", " + on + ": " + calls.get(i), (Integer) got.get(i), told.get(i));
        }
        return told.size();
    }

    private static List<?> run(String name, String code) throws Exception {
        Path folder = Files.createTempDirectory("readme");
        try {
            Path source = folder.resolve(name + ".java");
            Files.writeString(source, "public final class " + name + " {\n    public static java.util.List<Integer> answers() {\n"
                    + "java.util.List<Integer> answers = new java.util.ArrayList<>();\n" + code + "return answers;\n    }\n}\n");
            String path = System.getProperty("java.class.path");
            int refused = ToolProvider.findFirst("javac").orElseThrow().run(System.out, System.out,
                    "--release", "17", "-cp", path, "-d", folder.toString(), source.toString());
            Due.is(name + " compiles", refused, 0);
            return refused == 0 ? answersOf(name, folder, path) : List.of();
        } finally {
            remove(folder);
        }
    }

    /** One loader for all, because the model is seen only within its own package. */
    private static List<?> answersOf(String name, Path folder, String path) throws Exception {
        List<URL> places = new ArrayList<>(List.of(folder.toUri().toURL()));
        for (String part : path.split(File.pathSeparator)) {
            places.add(Path.of(part).toUri().toURL());
        }
        try (URLClassLoader loader = new URLClassLoader(places.toArray(new URL[0]), ClassLoader.getPlatformClassLoader())) {
            return (List<?>) loader.loadClass(name).getMethod("answers").invoke(null);
        }
    }

    private static void remove(Path folder) throws IOException {
        try (Stream<Path> inside = Files.list(folder)) {
            for (Path file : inside.toList()) {
                Files.delete(file);
            }
        }
        Files.delete(folder);
    }

    private static void constants(String readme) {
        int[] values = {PoolRenumberer.INVALID_ARGUMENT, PoolRenumberer.ILLEGAL_STATE, PoolRenumberer.CAPACITY_EXCEEDED,
            PoolRenumberer.NONE};
        String[] names = {"INVALID_ARGUMENT", "ILLEGAL_STATE", "CAPACITY_EXCEEDED", "NONE"};
        for (int i = 0; i < values.length; i++) {
            Due.isTrue("README.md tells what " + names[i] + " means",
                    Pattern.compile("(?m)^\\| " + values[i] + " \\| `" + names[i] + "` \\| [^|]+ \\|$").matcher(readme).find());
        }
    }

    /** The calls of the table, with their parameters and codes, are those of the document's promises. */
    private static void calls(String readme, String document) {
        Map<String, List<String>> told = new TreeMap<>();
        Matcher row = Pattern.compile("(?m)^\\| `(\\w+\\([\\w, ]*\\))` \\| [^|]+ \\|([^|]*)\\|$").matcher(readme);
        while (row.find()) {
            told.put(row.group(1), codesIn(row.group(2)));
        }
        Map<String, List<String>> due = new TreeMap<>();
        Pattern head = Pattern.compile("`int (\\w+\\([\\w, ]*\\))`: ");
        for (String section : document.split("\n## Promise ")) {
            Matcher call = head.matcher(section);
            Matcher returns = Pattern.compile("(?m)^Returns .*$").matcher(section);
            if (call.find() && returns.find()) {
                due.put(call.group(1).replace("int ", ""), codesIn(returns.group()));
            }
        }
        Due.is("calls of the document", due.size(), 34);
        Due.isTrue("README.md has the calls " + due.keySet(), told.keySet().equals(due.keySet()));
        for (Map.Entry<String, List<String>> call : due.entrySet()) {
            Due.isTrue("README.md tells for " + call.getKey() + " the codes " + call.getValue(),
                    call.getValue().equals(told.get(call.getKey())));
        }
    }

    private static List<String> codesIn(String text) {
        List<String> codes = new ArrayList<>();
        Matcher matcher = CODE.matcher(text);
        while (matcher.find()) {
            codes.add(matcher.group());
        }
        return codes;
    }

    private static void savingCalls(String readme, String document) {
        Matcher due = Pattern.compile("Every successful call of (.*?) saves the state").matcher(document);
        Matcher told = Pattern.compile("(?m)^(`load`, [^.;]*?) save the state").matcher(readme.replaceAll("(?<=,)\n", " "));
        Due.isTrue("README.md tells which calls save the state", due.find() && told.find()
                && wordsOf(due.group(1)).equals(wordsOf(told.group(1))));
    }

    private static List<String> wordsOf(String text) {
        return Arrays.stream(text.replaceAll("[`(),]", "").split("\\s+(and\\s+)?")).toList();
    }

    private static void tests(String readme) throws IOException {
        String list = readme.substring(Math.max(0, readme.indexOf("\n## Tests")));
        try (Stream<Path> files = Files.list(TESTS)) {
            for (Path file : files.toList()) {
                String name = file.getFileName().toString().replace(".java", "");
                if (name.endsWith("Test")) {
                    Due.isTrue("README.md tells what " + name + " tests", list.contains("`" + name + "`"));
                }
            }
        }
        Due.isTrue("README.md tells how to run the tests", list.contains("\n    .ci/run\n"));
        Due.isTrue("README.md tells of the shared tests", list.contains("`../shared/tests`"));
    }
}
