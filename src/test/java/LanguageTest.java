import java.lang.reflect.Constructor;
import java.lang.reflect.Field;
import java.lang.reflect.Method;
import java.lang.reflect.Modifier;
import java.nio.file.Files;
import java.nio.file.Path;
import java.util.ArrayList;
import java.util.Arrays;
import java.util.HashSet;
import java.util.List;
import java.util.Set;
import java.util.TreeSet;
import java.util.regex.Matcher;
import java.util.regex.Pattern;

/** The rules of LANGUAGE.md as far as they can be seen in the source and the class, and the room. */
public final class LanguageTest {
    private static final String[] FACE = {
        "int set(int,int)", "int count(int)", "int feed(int,int,int,int,int,int)", "int text()", "int force(int)", "int street(int,int,int,int)",
        "int close()", "int told(int,int)", "int gone(int)", "int asks(int,int,int)", "int ring(int,int)", "int heavy(int,int)", "int gap(int)",
        "int calls(int,int,int)", "int two(int,int,int)", "int round(int)", "int never(int)", "int bars(int)", "int bears()", "int part(int)",
        "int house(int,int)", "int lane(int,int)", "int newly()", "int bond(int,int)", "int hours(int,int)", "int laws(int)", "int judge(int)",
        "int walk(int,int)", "int show(int,int)", "int drawn(int,int)", "long odds(int,int,int,int)", "int image()", "int back()",
        "int sheet(int,int,int)", "int cell(int,int,int)", "int copy(int,int,int,int,int)", "int streetsBy(int,int,int,int)", "int taken(int,int)"};
    private static final Set<String> LIBRARY = Set.of("Arrays.fill", "Arrays.copyOf", "Arrays.copyOfRange", "System.arraycopy", "Integer.bitCount",
        "Math.min", "Math.max", "Math.abs", "Integer.MAX_VALUE", "Long.MAX_VALUE");

    private static int wrong = 0;

    private static void due(boolean holds, String rule) {
        if (holds) return;
        wrong++;
        System.out.println("not so: " + rule);
    }

    public static void main(String[] args) throws Exception {
        face();
        classes();
        String source = Files.readString(Path.of("src/main/java/HomeByAnotherWay.java"));
        words(source);
        methods(source);
        room();
        System.out.println(wrong == 0 ? "the rules are kept" : wrong + " rules are not kept");
        if (wrong != 0) System.exit(1);
    }

    private static void face() {
        Class<?> c = HomeByAnotherWay.class;
        due(Modifier.isPublic(c.getModifiers()) && Modifier.isFinal(c.getModifiers()), "the class is public and final");
        TreeSet<String> face = new TreeSet<>(), want = new TreeSet<>(Arrays.asList(FACE));
        for (Method m : c.getDeclaredMethods()) {
            if (!Modifier.isPrivate(m.getModifiers())) face.add(told(m));
        }
        due(face.equals(want), "the methods are the document's: " + face);
        Constructor<?>[] made = c.getDeclaredConstructors();
        due(made.length == 1 && Modifier.isPublic(made[0].getModifiers()) && made[0].getParameterCount() == 0, "one public constructor");
        TreeSet<String> constants = new TreeSet<>();
        for (Field f : c.getDeclaredFields()) {
            if (!Modifier.isPrivate(f.getModifiers())) constants.add(f.getType() + " " + f.getName());
        }
        due(constants.toString().equals("[int BAD, int FULL, int NONE, int STATE, long NO]"), "the constants are the document's: " + constants);
    }

    private static String told(Method m) {
        List<String> types = new ArrayList<>();
        for (Class<?> type : m.getParameterTypes()) types.add(type.getName());
        boolean plain = Modifier.isPublic(m.getModifiers()) && !Modifier.isStatic(m.getModifiers());
        return (plain ? "" : "not public: ") + m.getReturnType().getName() + " " + m.getName() + "(" + String.join(",", types) + ")";
    }

    private static void classes() {
        Set<String> publicNames = new HashSet<>();
        for (Method m : HomeByAnotherWay.class.getDeclaredMethods()) if (Modifier.isPublic(m.getModifiers())) publicNames.add(m.getName());
        List<Class<?>> all = new ArrayList<>(List.of(HomeByAnotherWay.class.getDeclaredClasses()));
        due(all.size() <= 11, "twelve classes at most");
        for (Class<?> c : all) {
            int m = c.getModifiers();
            due(Modifier.isStatic(m) && !Modifier.isPublic(m) && !Modifier.isProtected(m), c + " is static, not public");
            due(c.getDeclaredClasses().length == 0, c + " has no class inside");
        }
        all.add(HomeByAnotherWay.class);
        for (Class<?> c : all) {
            int fields = 0;
            for (Field f : c.getDeclaredFields()) {
                if (Modifier.isStatic(f.getModifiers())) due(Modifier.isFinal(f.getModifiers()), f + " is final");
                else fields++;
            }
            due(fields <= 20, c + " has twenty fields at most");
            for (Method m : c.getDeclaredMethods()) {
                due(m.getParameterCount() <= 7, m + " takes seven parameters at most");
                boolean ofFace = c == HomeByAnotherWay.class && Modifier.isPublic(m.getModifiers());
                due(ofFace || !publicNames.contains(m.getName()), m + " bears no name of the face");
            }
        }
    }

    private static void words(String source) {
        String code = source.replaceAll("(?s)/\\*.*?\\*/", " ").replaceAll("//[^\n]*", " ");
        due(source.chars().allMatch(ch -> ch < 127), "the source's signs are 1 to 126");
        String bare = code.replaceAll("'(\\\\.|[^'\\\\])'", "0").replaceAll("\"(\\\\.|[^\"\\\\])*\"", "#");
        for (String word : "package throw throws try catch finally synchronized assert instanceof interface enum record extends implements "
                .concat("transient volatile native equals hashCode toString float double Thread Random clock nanoTime getClass var goto")
                .split(" ")) {
            due(!Pattern.compile("\\b" + word + "\\b").matcher(bare).find(), "no " + word);
        }
        for (String sign : new String[] {"->", "::", "@", "# +", "+ #"}) due(!bare.contains(sign), "no " + sign);
        Matcher imports = Pattern.compile("import [^;]*;").matcher(bare);
        while (imports.find()) due(imports.group().equals("import java.util.Arrays;"), imports.group());
        Matcher calls = Pattern.compile("\\b(Arrays|System|Integer|Long|Math|String|Character|Object)\\.(\\w+)").matcher(bare);
        while (calls.find()) due(LIBRARY.contains(calls.group()), calls.group() + " is not of the library");
        due(!bare.contains("static {"), "no static block");
    }

    private static void methods(String source) {
        String[] lines = source.split("\n");
        for (int i = 0; i < lines.length; i++) {
            if (!lines[i].matches(" +(public |private |static |final )*[\\w\\[\\]]+ \\w+\\(.*\\) \\{")) continue;
            int indent = lines[i].indexOf(lines[i].trim()), end = i + 1;
            while (!lines[end].startsWith(" ".repeat(indent) + "}")) end++;
            due(end - i < 60, "sixty lines at most: " + lines[i].trim());
            String name = lines[i].replaceAll("\\(.*", "").replaceAll(".* ", "");
            for (int k = i + 1; k < end; k++) {
                due(!Pattern.compile("(?<![.\\w])" + name + "\\(").matcher(lines[k]).find(), name + " calls itself");
            }
        }
    }

    /** What an object and its calls take, in bytes: no call makes anything. */
    private static void room() {
        com.sun.management.ThreadMXBean bean = (com.sun.management.ThreadMXBean) java.lang.management.ManagementFactory.getThreadMXBean();
        long id = Thread.currentThread().getId();
        for (int warm = 0; warm < 2; warm++) used(new HomeByAnotherWay());
        long before = bean.getThreadAllocatedBytes(id);
        HomeByAnotherWay x = new HomeByAnotherWay();
        long made = bean.getThreadAllocatedBytes(id);
        used(x);
        long after = bean.getThreadAllocatedBytes(id);
        due(made - before < 200000, "an object takes some 150,000 bytes: " + (made - before));
        due(after - made < 2000, "calls make nothing: " + (after - made));
    }

    private static void used(HomeByAnotherWay x) {
        String text = "walk base*2;carry(more);may not 0;";
        for (int i = 0; i < text.length(); i++) x.feed(1, text.charAt(i), 0, 0, 0, 0);
        x.force(x.text());
        for (int i = 0; i < 9; i++) x.street(i % 6, 10 * i + (i + 1) % 9, 5, i);
        x.street(0, 3, 1, 1);
        x.sheet(0, 2, 4);
        x.copy(0, 0, 0, 1, 2);
        for (int i = 0; i < 4; i++) {
            x.ring(4, i);
            x.two(6, 8, i);
            x.house(3, i);
            x.lane(5, i);
            x.hours(4, i);
            x.laws(4);
            x.bars(4);
            x.bears();
            x.newly();
            x.show(4, 0);
            x.judge(0);
            x.odds(1, 50, 1, 0);
            x.image();
            x.back();
            x.streetsBy(0, 2, 0, 1);
        }
    }
}
