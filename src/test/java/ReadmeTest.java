import java.lang.reflect.Field;
import java.lang.reflect.Method;
import java.lang.reflect.Modifier;
import java.net.URL;
import java.net.URLClassLoader;
import java.nio.file.Files;
import java.nio.file.Path;
import java.util.ArrayList;
import java.util.List;
import java.util.Set;
import java.util.TreeSet;
import java.util.regex.Matcher;
import java.util.regex.Pattern;
import java.util.stream.Stream;
import javax.tools.ToolProvider;

/** README.md: its example is right as it stands, and its tables say of each call what the document says. Run where it is. */
public final class ReadmeTest {
    private static final Path README = Path.of("README.md"), DOCUMENT = Path.of("../shared/DOC.md");
    private static final Pattern CALL = Pattern.compile("^( *)(x\\.\\w+\\(.*\\)); +// (-?\\d+|[A-Z]+)([:,].*)?$");
    private static final Pattern PROMISE = Pattern.compile("## Promise \\d+: (\\w+)\\s+`[^`]*`: ([^\\n]*)");
    private static final Pattern NAME = Pattern.compile("`(\\w+)`");
    private static final String TELLING = "class Telling {\n    public static final java.util.List<Long> told = new java.util.ArrayList<>();\n"
        + "    private static void tell(long answer) { told.add(answer); }\n";

    private static final Checks checks = new Checks("ReadmeTest");
    private static final Set<String> constants = new TreeSet<>();

    public static void main(String[] args) throws Exception {
        String text = Files.readString(README);
        for (Field field : PowerClasses.class.getFields()) constants.add(field.getName());
        Path folder = Files.createTempDirectory("readme");
        theExample(text, folder);
        remove(folder);
        theConstants(text);
        theCalls(text);
        checks.begin("tests");
        checks.holds("how they are run is not said", text.contains("```sh\n.ci/run\n```"));
        checks.finish();
    }

    private static void theExample(String text, Path folder) throws Exception {
        checks.begin("the example");
        String block = between(text, "```java\n", "```");
        checks.holds("there is none", block.contains("public final class Example {"));
        checks.holds("it can't be compiled as it stands", compile(folder, "Example", block));
        run(folder, "Example");
        List<Long> due = new ArrayList<>();
        StringBuilder asked = new StringBuilder();
        for (String line : block.split("\n")) asked.append(lineThatTells(line, due)).append('\n');
        String telling = asked.toString().replace("class Example {", TELLING);
        checks.holds("its answers can't be looked at", compile(folder, "Telling", telling));
        dueAnswers(block, run(folder, "Telling"), due);
    }

    /** A call with an answer behind it is made to tell what it answers. */
    private static String lineThatTells(String line, List<Long> due) throws Exception {
        if (!line.strip().startsWith("x.")) return line;
        Matcher call = CALL.matcher(line);
        checks.holds("no answer stands behind " + line.strip(), call.matches());
        if (!call.matches()) return line;
        due.add(number(call.group(3)));
        return call.group(1) + "tell(" + call.group(2) + ");";
    }

    private static long number(String answer) throws Exception {
        if (!Character.isUpperCase(answer.charAt(0))) return Long.parseLong(answer);
        return constants.contains(answer) ? PowerClasses.class.getField(answer).getLong(null) : 0;
    }

    private static void dueAnswers(String block, Class<?> telling, List<Long> due) throws Exception {
        if (telling == null) return;
        List<?> told = (List<?>) telling.getField("told").get(null);
        checks.same("answers told", told.size(), due.size());
        checks.holds("it has hardly any calls", due.size() > 30);
        int at = 0;
        for (String line : block.split("\n")) {
            if (!line.strip().startsWith("x.") || at >= due.size() || at >= told.size()) continue;
            checks.same(line.strip(), (Long) told.get(at), due.get(at));
            at++;
        }
    }

    private static boolean compile(Path folder, String name, String source) throws Exception {
        Path file = Files.writeString(folder.resolve(name + ".java"), source);
        return ToolProvider.getSystemJavaCompiler().run(null, null, null, "-Xlint:all", "-Werror", "-cp",
            System.getProperty("java.class.path"), "-d", folder.toString(), file.toString()) == 0;
    }

    private static Class<?> run(Path folder, String name) throws Exception {
        if (!Files.exists(folder.resolve(name + ".class"))) return null;
        try (URLClassLoader loader = new URLClassLoader(new URL[] {folder.toUri().toURL()})) {
            Class<?> made = loader.loadClass(name);
            made.getMethod("main", String[].class).invoke(null, (Object) new String[0]);
            return made;
        }
    }

    private static void remove(Path folder) throws Exception {
        try (Stream<Path> files = Files.list(folder)) {
            for (Path file : files.toList()) Files.delete(file);
        }
        Files.delete(folder);
    }

    private static void theConstants(String text) throws Exception {
        checks.begin("the constants");
        for (String name : constants) {
            String value = name.equals("VOID") ? "the least long" : Long.toString(number(name));
            checks.holds(name + " is not said to be " + value, text.contains("\n| `" + name + "` | " + value + " | "));
        }
    }

    /** By call, the constants in its row; each call is in one row. */
    private static void theCalls(String text) throws Exception {
        checks.begin("the calls");
        String document = Files.exists(DOCUMENT) ? Files.readString(DOCUMENT) : "";
        String table = between(text, "| calls | what they answer when they can't be done |\n|---|---|\n", "\n\n");
        for (Method method : PowerClasses.class.getDeclaredMethods()) {
            if (!Modifier.isPublic(method.getModifiers())) continue;
            int rows = 0;
            for (String row : table.split("\n")) {
                String[] cells = row.split("\\|");
                if (cells.length < 3 || !names(cells[1]).contains(method.getName())) continue;
                rows++;
                if (document.isEmpty()) continue;
                Set<String> due = method.getReturnType() == long.class ? Set.of("VOID") : constantsOfPromise(document, method.getName());
                checks.holds(method.getName() + " answers " + names(cells[2]) + ", the document says " + due, names(cells[2]).equals(due));
            }
            checks.same("rows with " + method.getName(), rows, 1);
        }
    }

    private static Set<String> names(String cell) {
        Set<String> names = new TreeSet<>();
        for (Matcher name = NAME.matcher(cell); name.find();) names.add(name.group(1));
        return names;
    }

    private static Set<String> constantsOfPromise(String document, String call) {
        Set<String> named = new TreeSet<>();
        for (Matcher promise = PROMISE.matcher(document); promise.find();) {
            if (!promise.group(1).equals(call)) continue;
            for (String word : promise.group(2).split("[^A-Z]+")) {
                if (constants.contains(word)) named.add(word);
            }
        }
        return named;
    }

    private static String between(String text, String from, String to) {
        int start = text.indexOf(from);
        int end = text.indexOf(to, start + from.length());
        return start < 0 || end < 0 ? "" : text.substring(start + from.length(), end);
    }
}
