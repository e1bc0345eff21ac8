import java.io.PrintWriter;
import java.io.StringWriter;
import java.lang.reflect.Constructor;
import java.lang.reflect.Field;
import java.lang.reflect.Method;
import java.lang.reflect.Modifier;
import java.nio.file.Files;
import java.nio.file.Path;
import java.util.ArrayList;
import java.util.Arrays;
import java.util.LinkedHashMap;
import java.util.List;
import java.util.Map;
import java.util.Set;
import java.util.TreeSet;
import java.util.regex.Matcher;
import java.util.regex.Pattern;
import java.util.spi.ToolProvider;

/** The face of the class, and those rules of ../shared/LANGUAGE.md that can be looked up. Runs in the project's folder. */
public final class LanguageTest {
    private static final String SOURCE = "src/main/java/PoolRenumberer.java";
    private static final String[] FACE = {
        "appendCharacter 1", "clearText 0", "load 0", "addPool 2", "removePool 1", "setPolicy 1", "pool 2",
        "freeBlocks 1", "largestFree 0", "capacity 1", "fragmentation 0", "assign 2", "release 1", "resize 2",
        "renumber 2", "wave 1", "network 2", "owner 1", "addHost 3", "removeHost 1", "request 1", "host 2",
        "leaseOf 1", "pass 1", "setTimes 2", "nextEvent 0", "count 1", "routeCount 0", "route 2",
        "fragmentationAfter 1", "bestMove 0", "makePlan 1", "plan 2", "undo 0",
    };
    private static final int DEEPEST = 8;
    /** What rule 4 allows, as far as the class uses it. */
    private static final Set<String> LIBRARY = Set.of("java/lang/Object.<init>", "java/lang/String.length",
            "java/lang/String.charAt", "java/lang/Math.min", "java/lang/System.arraycopy", "java/util/Arrays.fill");

    /** What each method calls, and which ones make objects. */
    private static final Map<String, Set<String>> CALLS = new LinkedHashMap<>();
    private static final Set<String> MAKERS = new TreeSet<>();

    public static void main(String[] args) throws Exception {
        face();
        faceOfTheDocument();
        constants();
        words();
        methodLengths();
        readCode();
        library();
        noObjectsInCalls();
        depth();
        Due.end();
    }

    private static void face() {
        int modifiers = PoolRenumberer.class.getModifiers();
        Due.isTrue("public and final", Modifier.isPublic(modifiers) && Modifier.isFinal(modifiers));
        Set<String> seen = new TreeSet<>();
        for (Method method : PoolRenumberer.class.getDeclaredMethods()) {
            if (Modifier.isPrivate(method.getModifiers())) {
                continue;
            }
            seen.add(method.getName() + " " + method.getParameterCount());
            boolean plain = method.getReturnType() == int.class && method.getModifiers() == Modifier.PUBLIC;
            for (Class<?> type : method.getParameterTypes()) {
                plain = plain && type == int.class;
            }
            Due.isTrue(method + " has the document's types", plain);
        }
        Due.isTrue("the methods " + seen, seen.equals(new TreeSet<>(Arrays.asList(FACE))));
        Constructor<?>[] constructors = PoolRenumberer.class.getDeclaredConstructors();
        Due.is("constructors", constructors.length, 1);
        Due.is("its parameters", constructors[0].getParameterCount(), 0);
        Due.isTrue("it is public", Modifier.isPublic(constructors[0].getModifiers()));
        for (Class<?> inside : PoolRenumberer.class.getDeclaredClasses()) {
            Due.isTrue(inside + " is static", Modifier.isStatic(inside.getModifiers()));
            for (Method method : inside.getDeclaredMethods()) {
                boolean taken = Arrays.stream(FACE).anyMatch(f -> f.startsWith(method.getName() + " "));
                Due.isTrue(method + " bears a name of its own", !taken);
            }
        }
    }

    /** Names of parameters and the order too, which reflection does not tell; and nothing else is public. */
    private static void faceOfTheDocument() throws Exception {
        Matcher block = Pattern.compile("```java\n(.*?)```", Pattern.DOTALL).matcher(Files.readString(Path.of("../shared/DOC.md")));
        Due.isTrue("the document has a face", block.find());
        List<String> due = block.group(1).lines().filter(l -> l.contains("public")).map(l -> l.replaceAll("[;{]", "").strip()).toList();
        List<String> told = Files.readString(Path.of(SOURCE)).lines().filter(l -> l.matches("\\s*public\\b.*"))
                .map(l -> l.replaceAll("[;{]", "").strip()).toList();
        Due.is("public members", told.size(), due.size());
        for (int i = 0; i < due.size() && i < told.size(); i++) {
            Due.isTrue("the face has " + due.get(i) + ", not " + told.get(i), due.get(i).equals(told.get(i)));
        }
    }

    private static void constants() throws IllegalAccessException {
        Map<String, Integer> want = Map.of("INVALID_ARGUMENT", -1, "ILLEGAL_STATE", -2, "CAPACITY_EXCEEDED", -3, "NONE", -9);
        int seen = 0;
        for (Field field : PoolRenumberer.class.getDeclaredFields()) {
            boolean constant = Modifier.isStatic(field.getModifiers());
            Due.isTrue(field + " is final, if static", !constant || Modifier.isFinal(field.getModifiers()));
            if (!Modifier.isPrivate(field.getModifiers())) {
                seen++;
                Due.isTrue(field + " is public", Modifier.isPublic(field.getModifiers()) && constant);
                Due.is(field.getName(), field.getInt(null), want.getOrDefault(field.getName(), Integer.MAX_VALUE));
            }
        }
        Due.is("constants of the face", seen, want.size());
    }

    private static String withoutComments() throws Exception {
        String source = Files.readString(Path.of(SOURCE));
        return source.replaceAll("(?s)/\\*.*?\\*/", "").replaceAll("//[^\n]*", "");
    }

    private static void words() throws Exception {
        String source = Files.readString(Path.of(SOURCE));
        Due.isTrue("signs 1 to 127", source.chars().allMatch(c -> c > 0 && c < 128));
        String code = withoutComments();
        String[] forbidden = {"throw", "throws", "try", "catch", "synchronized", "assert", "lambda", "var", "package",
            "Object", "System\\.(?!arraycopy)\\w+", "Math\\.\\w*Exact", "hashCode", "toString", "protected"};
        for (String word : forbidden) {
            Due.isTrue("no " + word, !Pattern.compile("\\b" + word + "\\b").matcher(code).find());
        }
        Due.isTrue("no lambda", !code.contains("->"));
        Due.isTrue("no method reference", !code.contains("::"));
        Matcher imports = Pattern.compile("import ([^;]+);").matcher(code);
        while (imports.find()) {
            Due.isTrue("import " + imports.group(1), imports.group(1).equals("java.util.Arrays"));
        }
        Due.isTrue("some twelve classes", code.split("\\bclass\\b").length - 1 <= 12);
    }

    private static void methodLengths() throws Exception {
        List<String> lines = new ArrayList<>(Arrays.asList(Files.readString(Path.of(SOURCE)).split("\n")));
        Pattern head = Pattern.compile("^( {8}| {4})(?=\\w)[\\w\\[\\]<> ]*\\b(\\w+)\\(([^;]*)\\) \\{$");
        for (int i = 0; i < lines.size(); i++) {
            Matcher matcher = head.matcher(lines.get(i));
            if (!matcher.find()) {
                continue;
            }
            int end = lines.subList(i, lines.size()).indexOf(matcher.group(1) + "}");
            Due.isTrue(matcher.group(2) + " is short", end > 0 && end <= 60);
            Due.isTrue(matcher.group(2) + " has few parameters", matcher.group(3).split(",").length <= 7);
        }
    }

    private static void readCode() {
        List<String> arguments = new ArrayList<>(Arrays.asList("-c", "-p", "-cp", System.getProperty("java.class.path")));
        arguments.add("PoolRenumberer");
        for (Class<?> inside : PoolRenumberer.class.getDeclaredClasses()) {
            arguments.add(inside.getName());
        }
        StringWriter text = new StringWriter();
        PrintWriter writer = new PrintWriter(text);
        ToolProvider.findFirst("javap").orElseThrow().run(writer, writer, arguments.toArray(new String[0]));
        Pattern classHead = Pattern.compile("^\\S.*class (\\S+)");
        Pattern methodHead = Pattern.compile("^  (?:\\S.* )?([\\w$.]+)\\(.*\\);$");
        Pattern call = Pattern.compile("invoke\\w+.*// \\w*Method ([^:]+):");
        String owner = "";
        String method = "";
        for (String line : text.toString().split("\n")) {
            Matcher inClass = classHead.matcher(line);
            Matcher inMethod = methodHead.matcher(line);
            Matcher inCall = call.matcher(line);
            if (inClass.find()) {
                owner = inClass.group(1);
            } else if (inMethod.find()) {
                String name = inMethod.group(1);
                method = owner + "." + (name.equals(owner) ? "<init>" : name);
                CALLS.put(method, new TreeSet<>());
            } else if (inCall.find()) {
                String called = inCall.group(1).replace("\"", "");
                CALLS.get(method).add(called.contains(".") ? called : owner + "." + called);
            } else if (line.matches("\\s+\\d+: (new|newarray|anewarray|multianewarray|invokedynamic)\\b.*")) {
                MAKERS.add(method);
            }
        }
        Due.isTrue("the code was read", CALLS.containsKey("PoolRenumberer.undo"));
    }

    private static void library() {
        for (Map.Entry<String, Set<String>> method : CALLS.entrySet()) {
            for (String called : method.getValue()) {
                Due.isTrue(method.getKey() + " may call " + called, called.startsWith("PoolRenumberer") || LIBRARY.contains(called));
            }
        }
    }

    /** All rows are made in constructors, because all calls of a run live in one room. */
    private static void noObjectsInCalls() {
        Due.isTrue("objects are made", MAKERS.contains("PoolRenumberer.<init>"));
        for (String method : MAKERS) {
            Due.isTrue(method + " makes objects", method.endsWith(".<init>"));
        }
    }

    private static void depth() {
        for (String method : CALLS.keySet()) {
            Due.isTrue(method + " calls less than " + DEEPEST + " deep", depthOf(method, 0) <= DEEPEST);
        }
    }

    private static int depthOf(String method, int above) {
        int deepest = 0;
        for (String called : CALLS.getOrDefault(method, Set.of())) {
            deepest = above > DEEPEST ? DEEPEST : Math.max(deepest, depthOf(called, above + 1));
        }
        return deepest + 1;
    }
}
