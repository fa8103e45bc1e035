import java.io.ByteArrayOutputStream;
import java.io.IOException;
import java.io.PrintStream;
import java.lang.reflect.Field;
import java.lang.reflect.Method;
import java.net.URL;
import java.net.URLClassLoader;
import java.nio.file.Files;
import java.nio.file.Path;
import java.util.ArrayList;
import java.util.Comparator;
import java.util.List;
import java.util.Set;
import java.util.TreeSet;
import java.util.regex.Matcher;
import java.util.regex.Pattern;
import java.util.stream.Collectors;
import java.util.stream.Stream;
import javax.tools.JavaCompiler;
import javax.tools.ToolProvider;

/** What README.md says is so: its program, its tables of calls, its calls beside the document's, its list of tests. */
public final class ReadmeTest {
    private static final Pattern PRINTED = Pattern.compile("System\\.out\\.println\\(.*\\); +// (-?\\d+|true|false)\\b.*");
    private static final Pattern CALL = Pattern.compile("`(\\w+)\\(([^)]*)\\)`");
    private static final Pattern TEXT_TOLD = Pattern.compile("the text `([^`]*)`");
    private static final Pattern PROMISE = Pattern.compile("(?m)^## Promise (\\d+): .*\\R\\R`(?:\\w+ )?(\\w+\\([^)]*\\))`");

    private static String page;
    private static String program;
    private static String programText;
    private static int callsMade;

    public static void main(String[] args) throws Exception {
        page = Files.readString(Path.of("README.md"));
        program = between(page, "```java\n", "```");
        runProgram();
        tables();
        namesOfAllCalls();
        testsThatThereAre();
        filesThatThereAre();
        Checks.end("ReadmeTest");
    }

    private static String between(String all, String begin, String end) {
        int from = all.indexOf(begin);
        if (from < 0) {
            Checks.fail("README.md has no " + begin);
            return "";
        }
        from += begin.length();
        return all.substring(from, all.indexOf(end, from));
    }

    /** Each printed line begins as the comment beside its call tells. */
    private static void runProgram() throws Exception {
        Checks.about("the program");
        List<String> due = new ArrayList<>();
        for (String line : program.split("\n")) {
            Matcher m = PRINTED.matcher(line.trim());
            boolean told = m.matches();
            Checks.due("a told answer: " + line.trim(), told, line.contains("println"));
            if (told) {
                due.add(m.group(1));
            }
        }
        Checks.due("answers told", due.size() > 15, true);
        List<String> got = printedByProgram();
        Checks.due("lines printed", got.size(), due.size());
        for (int i = 0; i < due.size() && i < got.size(); i++) {
            Checks.same("line " + i, got.get(i), due.get(i));
        }
    }

    private static List<String> printedByProgram() throws Exception {
        JavaCompiler compiler = ToolProvider.getSystemJavaCompiler();
        if (compiler == null) {
            Checks.fail("java has no compiler with it");
            return List.of();
        }
        Path folder = Files.createTempDirectory("readme");
        try {
            Path file = Files.writeString(folder.resolve("Example.java"), program);
            String classPath = System.getProperty("java.class.path");
            Checks.due("compiled", compiler.run(null, null, null, "-cp", classPath, "-d", folder.toString(), file.toString()), 0);
            return printedFrom(folder);
        } finally {
            remove(folder);
        }
    }

    private static List<String> printedFrom(Path folder) throws Exception {
        PrintStream kept = System.out;
        ByteArrayOutputStream printed = new ByteArrayOutputStream();
        try (URLClassLoader loader = new URLClassLoader(new URL[] {folder.toUri().toURL()})) {
            Class<?> example = loader.loadClass("Example");
            Field text = example.getDeclaredField("TEXT");
            text.setAccessible(true);
            programText = (String) text.get(null);
            System.setOut(new PrintStream(printed, true));
            example.getMethod("main", String[].class).invoke(null, (Object) new String[0]);
        } finally {
            System.setOut(kept);
        }
        return printed.toString().lines().toList();
    }

    private static void remove(Path folder) throws IOException {
        try (Stream<Path> all = Files.walk(folder)) {
            for (Path path : all.sorted(Comparator.reverseOrder()).toList()) {
                Files.delete(path);
            }
        }
    }

    /** Each table is checked by its headings; the line ahead of it tells of which object it is. */
    private static void tables() throws Exception {
        String[] lines = page.split("\n");
        String ahead = "";
        String heading = "";
        int found = 0;
        for (String line : lines) {
            if (!line.startsWith("|")) {
                heading = "";
                ahead = line.isBlank() ? ahead : line;
            } else if (heading.isEmpty()) {
                heading = line;
                found++;
            } else if (!line.startsWith("|---")) {
                row(heading, ahead, line.substring(1, line.lastIndexOf('|')).split("\\|", -1));
            }
        }
        Checks.about("tables");
        Checks.due("tables found", found, 7);
        Checks.due("calls in them", callsMade > 70, true);
        Checks.due("promises in them", promisesListed.size(), 41);
    }

    private static void row(String heading, String ahead, String[] cells) throws Exception {
        Checks.about(String.join("|", cells).trim());
        switch (heading) {
            case "| Call | Answer | Why |": answered(ahead, cells[0], cells[1].trim()); break;
            case "| Text | `read()` | `place()` | Why |": read(cells); break;
            case "| Promise | Call | In short |": promised(cells[0].trim(), unquoted(cells[1])); break;
            case "| Tell | Numbers | At most | If not told |": told(unquoted(cells[0]), cells[2].trim()); break;
            default: Checks.fail("an unknown table: " + heading);
        }
    }

    private static String unquoted(String cell) {
        return cell.trim().replace("`", "");
    }

    private static void answered(String ahead, String calls, String answer) throws Exception {
        PartedSide x = objectOf(ahead);
        Object last = "no call";
        Matcher m = CALL.matcher(calls);
        while (m.find()) {
            last = call(x, m.group(1), m.group(2));
            callsMade++;
        }
        String due = answer.equals("`NONE`") ? "-1" : answer;
        Checks.same(calls.trim(), String.valueOf(last), due);
    }

    private static PartedSide objectOf(String ahead) {
        if (ahead.contains("in which nobody lies")) {
            return new PartedSide();
        }
        if (ahead.contains("the text above")) {
            return Checks.told(programText);
        }
        Matcher m = TEXT_TOLD.matcher(ahead);
        Checks.due("a text is told: " + ahead, m.find(), true);
        return Checks.told(m.group(1));
    }

    private static Object call(PartedSide x, String name, String arguments) throws Exception {
        String[] told = arguments.isEmpty() ? new String[0] : arguments.split(", ");
        Object[] values = new Object[told.length];
        for (int i = 0; i < told.length; i++) {
            boolean truth = told[i].equals("true") || told[i].equals("false");
            values[i] = truth ? (Object) told[i].equals("true") : (Object) Integer.parseInt(told[i]);
        }
        for (Method method : PartedSide.class.getMethods()) {
            if (method.getName().equals(name) && method.getParameterCount() == values.length) {
                return method.invoke(x, values);
            }
        }
        return "no such call";
    }

    private static void read(String[] cells) {
        Checks.fault(unquoted(cells[0]), Integer.parseInt(cells[1].trim()), Integer.parseInt(cells[2].trim()));
    }

    private static final List<String> promisesListed = new ArrayList<>();

    private static void promised(String number, String call) throws IOException {
        promisesListed.add(number);
        Checks.due("in its place", promisesListed.size(), Integer.parseInt(number));
        Matcher m = PROMISE.matcher(Files.readString(Path.of("../shared/DOC.md")));
        String due = "";
        while (m.find()) {
            due = m.group(1).equals(number) ? m.group(2) : due;
        }
        Checks.same("promise " + number, call, due);
    }

    /** The tell fits as often as told, and not once more. */
    private static void told(String tell, String most) {
        Checks.told("sleeper x 0 0; sleeper y 0 0;" + tell);
        if (most.isEmpty()) {
            Checks.told("sleeper x 0 0; sleeper y 0 0;" + tell.repeat(40));
            return;
        }
        boolean sleeper = tell.startsWith("sleeper");
        StringBuilder all = new StringBuilder(sleeper ? "" : "sleeper x 0 0; sleeper y 0 0;");
        for (int i = 0; i < Integer.parseInt(most); i++) {
            all.append(sleeper ? tell.replace("anna", "anna" + (char) ('a' + i)) : tell);
        }
        Checks.told(all.toString());
        Checks.fault(all + tell, 2, all.length());
    }

    private static void namesOfAllCalls() {
        Checks.about("calls");
        Set<String> called = new TreeSet<>();
        Matcher m = Pattern.compile("[`.](\\w+)\\(").matcher(page);
        while (m.find()) {
            called.add(m.group(1));
        }
        for (Method method : PartedSide.class.getDeclaredMethods()) {
            boolean seen = java.lang.reflect.Modifier.isPublic(method.getModifiers());
            Checks.due(method.getName() + " is shown", !seen || called.contains(method.getName()), true);
        }
    }

    private static void testsThatThereAre() throws IOException {
        Checks.about("tests");
        Set<String> told = new TreeSet<>();
        Matcher m = Pattern.compile("(?m)^- `(\\w+Test)`:").matcher(page);
        while (m.find()) {
            told.add(m.group(1));
        }
        try (Stream<Path> files = Files.list(Path.of("src/test/java"))) {
            Set<String> there = files.map(path -> path.getFileName().toString()).filter(name -> name.endsWith("Test.java"))
                .map(name -> name.replace(".java", "")).collect(Collectors.toCollection(TreeSet::new));
            Checks.same("tests listed", told.toString(), there.toString());
        }
    }

    private static void filesThatThereAre() {
        Checks.about("files");
        Matcher m = Pattern.compile("`((?:\\.\\./shared|src/|\\.ci/|NOTES)[\\w./]*)`").matcher(page);
        int found = 0;
        while (m.find()) {
            Checks.due(m.group(1), Files.exists(Path.of(m.group(1))), true);
            found++;
        }
        Checks.due("files told", found > 5, true);
        Checks.due(".ci/run may be run", Files.isExecutable(Path.of(".ci/run")), true);
    }
}
