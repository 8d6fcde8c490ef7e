import java.io.IOException;
import java.lang.reflect.Method;
import java.net.URL;
import java.net.URLClassLoader;
import java.nio.file.Files;
import java.nio.file.Path;
import java.util.ArrayList;
import java.util.List;
import java.util.TreeMap;
import java.util.TreeSet;
import java.util.regex.Matcher;
import java.util.regex.Pattern;
import java.util.stream.Stream;
import javax.tools.ToolProvider;

/**
 * The page README.md: its examples are compiled and run as they stand, each answer held against the first word of
 * its comment; its table has each call of the document, with the refusals that the document names for it.
 */
public final class ReadmeHolds {
    private static final Path README = Path.of("README.md"), DOCUMENT = Path.of("../shared/DOC.md");
    private static final Pattern CALL = Pattern.compile("(x\\.\\w+\\(.*\\)); *// (-?\\d+|[A-Z]+)\\b.*");
    private static final Pattern ROW = Pattern.compile("\\| `(\\w+)\\(([^)]*)\\)` \\|(.*)");
    private static final Pattern PROMISE = Pattern.compile("`\\w+ (\\w+)\\(([^)]*)\\)`: (.*)");
    private static final Pattern REFUSAL = Pattern.compile("UNKNOWN|OUTSIDE|STATE|FULL|NONE");
    private static int wrong = 0;

    public static void main(String[] args) throws Exception {
        List<String> lines = Files.readAllLines(README);
        int tried = examples(lines);
        if (tried == 0) {
            fault("there is no example");
        }
        calls(lines);
        System.out.println(wrong == 0 ? "the page holds" : wrong + " faults of the page");
        if (wrong != 0) {
            System.exit(1);
        }
    }

    private static void fault(String what) {
        wrong++;
        System.out.println(what);
    }

    /** Called by the compiled examples. */
    public static void due(String call, long got, long want) {
        if (got != want) {
            fault("README.md: " + call + " answered " + got + ", its comment says " + want);
        }
    }

    // ---- the examples

    private static int examples(List<String> lines) throws Exception {
        int tried = 0;
        StringBuilder source = new StringBuilder("public class Examples {\n    public static void main(String[] args) {\n");
        boolean isInside = false;
        for (String line : lines) {
            if (!isInside && line.equals("```java")) {
                isInside = true;
                source.append("{\n");
            } else if (isInside && line.equals("```")) {
                isInside = false;
                source.append("}\n");
            } else if (isInside) {
                Matcher call = CALL.matcher(line);
                boolean isCall = call.matches();
                tried += isCall ? 1 : 0;
                source.append(isCall ? held(call.group(1), call.group(2)) : line).append('\n');
            }
        }
        compileAndRun(source.append("    }\n}\n").toString());
        return tried;
    }

    private static String held(String call, String due) {
        String want = Character.isDigit(due.charAt(due.length() - 1)) ? due : "OneSentence." + due;
        return "ReadmeHolds.due(\"" + call + "\", " + call + ", " + want + ");";
    }

    private static void compileAndRun(String source) throws Exception {
        Path place = Files.createTempDirectory("readme");
        try {
            Path file = place.resolve("Examples.java");
            Files.writeString(file, source);
            int result = ToolProvider.getSystemJavaCompiler().run(null, null, null, "-cp",
                System.getProperty("java.class.path"), "-d", place.toString(), file.toString());
            if (result != 0) {
                fault("the examples do not compile");
                return;
            }
            try (URLClassLoader loader = new URLClassLoader(new URL[] {place.toUri().toURL()})) {
                loader.loadClass("Examples").getMethod("main", String[].class).invoke(null, (Object) new String[0]);
            }
        } finally {
            clear(place);
        }
    }

    private static void clear(Path place) throws IOException {
        List<Path> files = new ArrayList<>();
        try (Stream<Path> all = Files.list(place)) {
            all.forEach(files::add);
        }
        files.add(place);
        for (Path file : files) {
            Files.delete(file);
        }
    }

    // ---- the table

    private static void calls(List<String> lines) throws IOException {
        TreeMap<String, String> told = refusals(lines, ROW, false);
        TreeMap<String, String> due = refusals(Files.readAllLines(DOCUMENT), PROMISE, true);
        for (String call : due.keySet()) {
            if (!due.get(call).equals(told.get(call))) {
                fault("README.md tells " + call + " as " + told.get(call) + ", the document as " + due.get(call));
            }
        }
        TreeSet<String> face = new TreeSet<>();
        for (Method method : OneSentence.class.getMethods()) {
            if (method.getDeclaringClass() == OneSentence.class) {
                face.add(method.getName());
            }
        }
        if (!told.keySet().equals(face) || !due.keySet().equals(face)) {
            fault("README.md has " + told.keySet() + ", the document " + due.keySet() + ", the class " + face);
        }
    }

    /** Of each call its parameters and all refusals and NONE that its line names. */
    private static TreeMap<String, String> refusals(List<String> lines, Pattern pattern, boolean typed) {
        TreeMap<String, String> found = new TreeMap<>();
        for (String line : lines) {
            Matcher call = pattern.matcher(line);
            if (call.matches()) {
                String parameters = typed ? call.group(2).replaceAll("\\b(int|long|boolean) ", "") : call.group(2);
                TreeSet<String> words = new TreeSet<>();
                Matcher word = REFUSAL.matcher(call.group(3));
                while (word.find()) {
                    words.add(word.group());
                }
                found.put(call.group(1), "(" + parameters + ") " + words);
            }
        }
        return found;
    }
}
