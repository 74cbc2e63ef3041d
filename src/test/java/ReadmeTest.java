import java.io.ByteArrayOutputStream;
import java.io.File;
import java.io.PrintStream;
import java.lang.reflect.Field;
import java.lang.reflect.Method;
import java.lang.reflect.Modifier;
import java.net.URL;
import java.net.URLClassLoader;
import java.nio.charset.StandardCharsets;
import java.nio.file.Files;
import java.nio.file.Path;
import java.util.ArrayList;
import java.util.Comparator;
import java.util.List;
import java.util.TreeSet;
import java.util.regex.Matcher;
import java.util.regex.Pattern;
import java.util.stream.Stream;
import javax.tools.ToolProvider;

/** What README.md says is so: its programs, its examples of refusals, its calls, its tests. */
public final class ReadmeTest {
    private static final Pattern BLOCK = Pattern.compile("(?s)```java\n(.*?)```");
    private static final Pattern PRINTED = Pattern.compile("\\s*System\\.out\\.println\\((.*)\\);\\s*// (-?\\d+)\\b.*");
    private static final Pattern CALLED = Pattern.compile("\\s*(x\\.\\w+\\(.*\\));\\s*// (-?\\d+)\\b.*");
    private static final Pattern REFUSAL = Pattern.compile("\\| (-?\\d+|`NO`)( less a place)? \\| (?:`(\\w+)`)? *\\| .* \\| (?:`(.*)`)? *\\|");

    private static int rows = 0, wrong = 0;

    private ReadmeTest() {
    }

    public static void main(String[] args) throws Exception {
        String page = Files.readString(Path.of("README.md"));
        Path out = Files.createTempDirectory("readme");
        try {
            programs(page, out);
            refusals(page, out);
        } finally {
            remove(out);
        }
        calls(page);
        tests(page);
        System.out.println(wrong == 0 ? rows + " things that README.md says are so" : wrong + " things that README.md says are not so");
        if (wrong != 0) System.exit(1);
    }

    private static void due(Object got, Object want, String what) {
        rows++;
        if (got.equals(want)) return;
        wrong++;
        System.out.println(what + ": is " + got + ", README.md says " + want);
    }

    // ---- programs

    private static void programs(String page, Path out) throws Exception {
        Matcher block = BLOCK.matcher(page);
        int many = 0;
        while (block.find()) {
            many++;
            String text = block.group(1);
            Matcher named = Pattern.compile("public final class (\\w+)").matcher(text);
            boolean whole = named.find();
            List<String> lines = new ArrayList<>(), want = new ArrayList<>();
            for (String line : text.split("\n")) lines.add(told(line, whole ? PRINTED : CALLED, want));
            String body = String.join("\n", lines);
            String name = whole ? named.group(1) : "Readme" + many;
            List<String> got = run(out, name, whole ? body : program(name, body));
            due(!want.isEmpty(), true, name + " tells answers");
            due(got.size(), want.size(), name + ", answers");
            for (int i = 0; i < Math.min(got.size(), want.size()); i++) due(got.get(i), want.get(i), name + ", answer " + (i + 1));
        }
        due(many > 0, true, "programs");
    }

    /** A line as it is run; what is told behind it is what it must print. */
    private static String told(String line, Pattern pattern, List<String> want) {
        Matcher told = pattern.matcher(line);
        if (!told.matches()) {
            due(Pattern.compile("// -?\\d").matcher(line).find(), false, "an answer that can't be looked at: " + line.trim());
            return line;
        }
        want.add(told.group(2));
        return "System.out.println(" + told.group(1) + ");";
    }

    private static String program(String name, String body) {
        return "public final class " + name + " {\npublic static void main(String[] args) {\n" + body + "\n}\n}\n";
    }

    /** The lines that a program prints. */
    private static List<String> run(Path out, String name, String program) throws Exception {
        Path source = out.resolve(name + ".java");
        Files.writeString(source, program);
        String classes = System.getProperty("java.class.path");
        int no = ToolProvider.getSystemJavaCompiler().run(null, null, null, "-cp", classes, "-d", out.toString(), source.toString());
        if (no != 0) return List.of("(it can't be compiled)");
        ByteArrayOutputStream printed = new ByteArrayOutputStream();
        PrintStream screen = System.out;
        try (URLClassLoader loader = new URLClassLoader(new URL[] {out.toUri().toURL()});
                PrintStream page = new PrintStream(printed, true, StandardCharsets.UTF_8)) {
            System.setOut(page);
            loader.loadClass(name).getMethod("main", String[].class).invoke(null, (Object) new String[0]);
        } finally {
            System.setOut(screen);
        }
        return printed.toString(StandardCharsets.UTF_8).lines().toList();
    }

    private static void remove(Path out) {
        File[] all = out.toFile().listFiles();
        if (all != null) for (File file : all) file.delete();
        out.toFile().delete();
    }

    // ---- refusals

    private static void refusals(String page, Path out) throws Exception {
        TreeSet<String> constants = new TreeSet<>();
        List<String> want = new ArrayList<>(), asked = new ArrayList<>();
        for (String line : page.split("\n")) {
            Matcher row = REFUSAL.matcher(line);
            if (!row.matches()) continue;
            String answer = row.group(1).equals("`NO`") ? String.valueOf(HomeByAnotherWay.NO) : row.group(1);
            if (row.group(3) != null) {
                constants.add(row.group(3));
                due(String.valueOf(HomeByAnotherWay.class.getField(row.group(3)).get(null)), answer, row.group(3));
            }
            if (row.group(4) == null) continue;
            want.add(answer);
            asked.add("new HomeByAnotherWay()." + row.group(4));
        }
        due(constants, constants(), "constants");
        due(want.size() > 5, true, "refusals are told");
        StringBuilder body = new StringBuilder();
        for (String call : asked) body.append("System.out.println(").append(call).append(");\n");
        List<String> got = run(out, "Refusals", program("Refusals", body.toString()));
        due(got.size(), want.size(), "refusals");
        for (int i = 0; i < Math.min(got.size(), want.size()); i++) due(got.get(i), want.get(i), asked.get(i));
    }

    private static TreeSet<String> constants() {
        TreeSet<String> constants = new TreeSet<>();
        for (Field f : HomeByAnotherWay.class.getDeclaredFields()) if (Modifier.isPublic(f.getModifiers())) constants.add(f.getName());
        return constants;
    }

    // ---- calls, tests

    private static void calls(String page) {
        String table = page.substring(page.indexOf("### All calls"), page.indexOf("## Tests"));
        TreeSet<String> told = new TreeSet<>(), face = new TreeSet<>();
        Matcher call = Pattern.compile("`(\\w+)\\(([\\w, ]*)\\)`").matcher(table);
        while (call.find()) told.add(call.group(1) + "/" + (call.group(2).isEmpty() ? 0 : call.group(2).split(",").length));
        for (Method m : HomeByAnotherWay.class.getDeclaredMethods()) {
            if (Modifier.isPublic(m.getModifiers())) face.add(m.getName() + "/" + m.getParameterCount());
        }
        due(face, told, "calls and how many arguments they take");
    }

    private static void tests(String page) throws Exception {
        String list = page.substring(page.indexOf("## Tests"));
        TreeSet<String> told = new TreeSet<>(), stand = new TreeSet<>();
        Matcher test = Pattern.compile("(?m)^- `(\\w+)`:").matcher(list);
        while (test.find()) told.add(test.group(1));
        try (Stream<Path> files = Files.list(Path.of("src/test/java"))) {
            for (Path file : files.sorted(Comparator.naturalOrder()).toList()) {
                String name = file.getFileName().toString().replace(".java", "");
                if (name.endsWith("Test")) stand.add(name);
                else due(list.contains("`" + name), true, name + " is told of");
            }
        }
        due(stand, told, "tests");
    }
}
