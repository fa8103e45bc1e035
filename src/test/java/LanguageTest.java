import java.io.IOException;
import java.lang.reflect.Field;
import java.lang.reflect.Method;
import java.lang.reflect.Modifier;
import java.nio.file.Files;
import java.nio.file.Path;
import java.util.ArrayList;
import java.util.Arrays;
import java.util.List;
import java.util.Set;
import java.util.TreeSet;
import java.util.regex.Matcher;
import java.util.regex.Pattern;

/** The rules of ../shared/LANGUAGE.md that can be seen in the source or by reflection. */
public final class LanguageTest {
    private static final Pattern METHOD = Pattern.compile(
        "^(?:    |        )(?:(?:public|private|static) )*(?:[A-Za-z\\[\\]]+ )?([A-Za-z]+)\\([^)]*\\) \\{$");

    public static void main(String[] args) throws IOException {
        String source = Files.readString(Path.of("src/main/java/PartedSide.java"));
        List<Class<?>> classes = new ArrayList<>(Arrays.asList(PartedSide.class.getDeclaredClasses()));
        classes.add(PartedSide.class);
        face();
        shapes(classes);
        words(source);
        methods(source.split("\n"));
        Checks.end("LanguageTest");
    }

    /** Rule 1: the members that can be seen are those of the document's face. */
    private static void face() throws IOException {
        Checks.about("rule 1");
        String doc = Files.readString(Path.of("../shared/DOC.md"));
        String block = doc.substring(doc.indexOf("public final class PartedSide {"));
        block = block.substring(0, block.indexOf("```"));
        Set<String> due = new TreeSet<>();
        Matcher m = Pattern.compile("public (\\w+) (\\w+)\\(([^)]*)\\);").matcher(block);
        while (m.find()) {
            due.add(m.group(1) + " " + m.group(2) + "(" + m.group(3).replaceAll(" \\w+(,|$)", "$1").replace(" ", "") + ")");
        }
        Checks.due("methods in the document", due.size(), 40);
        Set<String> got = new TreeSet<>();
        for (Method method : PartedSide.class.getDeclaredMethods()) {
            if (!Modifier.isPrivate(method.getModifiers())) {
                StringBuilder s = new StringBuilder(method.getReturnType() + " " + method.getName() + "(");
                for (Class<?> type : method.getParameterTypes()) {
                    s.append(s.charAt(s.length() - 1) == '(' ? "" : ",").append(type);
                }
                got.add(s + ")");
            }
        }
        Checks.due("the face, due " + due + ", got " + got, due.equals(got), true);
        Checks.due("constructors", PartedSide.class.getDeclaredConstructors().length, 1);
        Checks.due("final", Modifier.isFinal(PartedSide.class.getModifiers()), true);
        for (Field field : PartedSide.class.getDeclaredFields()) {
            boolean seen = !Modifier.isPrivate(field.getModifiers());
            Checks.due("field " + field.getName() + " seen", seen, field.getName().equals("NONE"));
        }
        for (Class<?> inside : PartedSide.class.getDeclaredClasses()) {
            for (Method method : inside.getDeclaredMethods()) {
                Checks.due("a name of the face: " + method, block.contains(" " + method.getName() + "("), false);
            }
        }
        for (Method method : PartedSide.class.getDeclaredMethods()) {
            boolean named = block.contains(" " + method.getName() + "(");
            Checks.due("a name of the face: " + method, Modifier.isPublic(method.getModifiers()), named);
        }
    }

    /** Rules 2, 3, 5 and 11: classes, fields and parameters. */
    private static void shapes(List<Class<?>> classes) {
        Checks.about("rules 2, 3, 5 and 11");
        Checks.due("twelve classes at most", classes.size() <= 12, true);
        for (Class<?> c : classes) {
            Checks.due("nested deeper: " + c, c == PartedSide.class || c.getDeclaredClasses().length == 0, true);
            Checks.due("static: " + c, c == PartedSide.class || Modifier.isStatic(c.getModifiers()), true);
            int fields = 0;
            for (Field field : c.getDeclaredFields()) {
                boolean constant = Modifier.isStatic(field.getModifiers());
                fields += constant ? 0 : 1;
                Class<?> type = field.getType();
                if (constant) {
                    boolean plain = type == int.class || type == String.class;
                    Checks.due("constant " + field, Modifier.isFinal(field.getModifiers()) && plain, true);
                }
                Class<?> element = type.isArray() ? type.getComponentType() : type;
                Checks.due("type of " + field, element.isPrimitive() || element == String.class || classes.contains(element), true);
            }
            Checks.due("fields of " + c + ": " + fields, fields <= 20, true);
            for (Method method : c.getDeclaredMethods()) {
                Checks.due("parameters of " + method, method.getParameterCount() <= 7, true);
            }
        }
    }

    /** Rules 4, 6, 10 and 13: words that may not stand, and what is called of the library. */
    private static void words(String source) {
        Checks.about("rules 4, 6, 10 and 13");
        String code = source.replaceAll("/\\*\\*.*\\*/", "").replaceAll("//.*", "");
        for (int i = 0; i < source.length(); i++) {
            if (source.charAt(i) > 126) {
                Checks.fail("a sign above 126 at " + i);
            }
        }
        String[] none = {"throw", "throws", "try", "catch", "finally", "synchronized", "assert", "protected", "package", "double",
            "float", "native", "volatile", "instanceof", "hashCode", "toString", "goto"};
        for (String word : none) {
            Checks.due("the word " + word, Pattern.compile("\\b" + word + "\\b").matcher(code).find(), false);
        }
        for (String sign : new String[] {"->", "::", "\" +", "+ \"", "@"}) {
            Checks.due("the sign " + sign, code.contains(sign), false);
        }
        Matcher imports = Pattern.compile("import ([^;]*);").matcher(code);
        while (imports.find()) {
            Checks.due("import " + imports.group(1), imports.group(1).equals("java.util.Arrays"), true);
        }
        Set<String> library = Set.of("Arrays.fill", "System.arraycopy", "Math.max", "Math.min", "Integer.bitCount");
        Matcher calls = Pattern.compile("\\b(Arrays|System|Math|Integer|Long|Runtime|Thread|Character)\\.(\\w+)").matcher(code);
        while (calls.find()) {
            Checks.due("call of " + calls.group(), library.contains(calls.group()), true);
        }
    }

    /** Rules 11 and 12: short methods, and objects made with the object alone. */
    private static void methods(String[] lines) {
        Checks.about("rules 11 and 12");
        Set<String> classNames = Set.of("PartedSide", "Tape", "Law", "Plan", "Night", "Scribe", "Memory", "Sightings", "Dream", "Turns",
            "Whistles", "Rows");
        String name = "";
        int begun = -1;
        int found = 0;
        for (int i = 0; i < lines.length; i++) {
            String line = lines[i];
            Checks.due("width of line " + (i + 1), line.length() <= 130, true);
            Matcher m = METHOD.matcher(line);
            if (begun < 0 && m.matches()) {
                name = m.group(1);
                begun = i;
                found++;
            }
            if (line.contains(" new ") && !line.trim().startsWith("//") && !line.contains("/**")) {
                boolean field = begun < 0 && line.trim().startsWith("private final ");
                Checks.due("made on line " + (i + 1), field || begun >= 0 && classNames.contains(name), true);
            }
            if (begun >= 0 && (line.equals("    }") || line.equals("        }"))) {
                Checks.due("length of " + name, i - begun < 60, true);
                begun = -1;
            }
        }
        Checks.due("methods found: " + found, found > 120, true);
    }
}
