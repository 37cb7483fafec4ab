import java.lang.reflect.Constructor;
import java.lang.reflect.Field;
import java.lang.reflect.Method;
import java.lang.reflect.Modifier;
import java.nio.file.Files;
import java.nio.file.Path;
import java.util.ArrayList;
import java.util.Arrays;
import java.util.List;
import java.util.Set;
import java.util.TreeSet;
import java.util.regex.Matcher;
import java.util.regex.Pattern;

/** That the class has the document's face and no other, and nothing that ../shared/LANGUAGE.md forbids. */
public final class LanguageTest {
    private static final String SOURCE = "src/main/java/HayRemembers.java";
    private static final String[] FACE = {
        "int rick()", "int lay(int,int)", "int layers(int,int,int)", "int mend(int,int,int)", "int of(int,int)",
        "int feed(int)", "int law()", "int keeps(int)", "int lean(int,int)", "int winter(int,int,int)",
        "int leanThen(int,int,int,int)", "int order(int,int,int)", "int letOut(int,int,int)", "int worth(int,int,int)",
        "long likely(int,int,int)", "long mean(int,int)", "int judge(int,int)", "int top(int,int)", "int hours(int,int)",
        "int youngest(int,int)", "int byTurns(int,int,int)", "int drawn(int,int,int)", "int cut(int)", "int day()",
        "int led(int)", "int image()", "int back()", "int undo()", "int redo()", "int body(int)", "int act(int,int,int)",
        "int trace(int)", "int keep(int,int)", "int row(int,int,int)", "int put(int,int,long)", "long element(int,int)",
        "int shift(int,int,int,int,int)", "int taken(int,int)", "int count(int)"};
    private static int wrong = 0;

    private static void due(boolean holds, String rule) {
        if (!holds) {
            wrong++;
            System.out.println("not so: " + rule);
        }
    }

    public static void main(String[] args) throws Exception {
        face();
        inside();
        source(Files.readString(Path.of(SOURCE)));
        System.out.println(wrong == 0 ? "the rules are kept" : wrong + " rules are broken");
        if (wrong != 0) {
            System.exit(1);
        }
    }

    private static void face() {
        Class<?> c = HayRemembers.class;
        due(Modifier.isPublic(c.getModifiers()) && Modifier.isFinal(c.getModifiers()), "the class is public and final");
        Constructor<?>[] made = c.getDeclaredConstructors();
        due(made.length == 1 && Modifier.isPublic(made[0].getModifiers()) && made[0].getParameterCount() == 0, "one constructor");
        Set<String> shown = new TreeSet<>();
        Set<String> names = new TreeSet<>();
        for (Method m : c.getDeclaredMethods()) {
            if (Modifier.isPublic(m.getModifiers())) {
                String types = Arrays.toString(m.getParameterTypes()).replaceAll("[\\[\\] ]", "");
                shown.add(m.getReturnType() + " " + m.getName() + "(" + types + ")");
                names.add(m.getName());
            }
        }
        due(shown.equals(new TreeSet<>(Arrays.asList(FACE))), "the public methods are the document's: " + shown);
        for (Method m : c.getDeclaredMethods()) {
            boolean shownOne = Modifier.isPublic(m.getModifiers());
            due(shownOne || Modifier.isPrivate(m.getModifiers()), m + " is public or private");
            due(shownOne || !names.contains(m.getName()), m + " has no public one's name");
        }
        Set<String> constants = new TreeSet<>();
        for (Field f : c.getDeclaredFields()) {
            if (Modifier.isPublic(f.getModifiers())) {
                constants.add(f.getName());
            }
            due(Modifier.isPublic(f.getModifiers()) || Modifier.isPrivate(f.getModifiers()), f + " is public or private");
        }
        due(constants.equals(new TreeSet<>(Arrays.asList("BAD", "NOT", "FULL", "STATE", "VOID"))), "the constants");
        for (Class<?> inner : c.getDeclaredClasses()) {
            for (Method m : inner.getDeclaredMethods()) {
                due(!names.contains(m.getName()), m + " has no public one's name");
            }
        }
    }

    private static void inside() {
        List<Class<?>> all = new ArrayList<>(Arrays.asList(HayRemembers.class.getDeclaredClasses()));
        due(all.size() <= 12, "twelve classes at most");
        for (Class<?> c : all) {
            due(Modifier.isStatic(c.getModifiers()), c + " is static");
            due(!Modifier.isPublic(c.getModifiers()) && !Modifier.isProtected(c.getModifiers()), c + " is not shown");
            due(c.getDeclaredClasses().length == 0, c + " has no classes inside");
        }
        all.add(HayRemembers.class);
        for (Class<?> c : all) {
            int fields = 0;
            for (Field f : c.getDeclaredFields()) {
                boolean still = Modifier.isStatic(f.getModifiers());
                fields += still ? 0 : 1;
                due(!still || Modifier.isFinal(f.getModifiers()), f + " is final");
            }
            due(fields <= 20, c + " has twenty fields at most: " + fields);
            for (Method m : c.getDeclaredMethods()) {
                due(m.getParameterCount() <= 7, m + " has seven parameters at most");
                due(!m.isSynthetic(), m + " is written out");
            }
        }
    }

    private static void source(String text) {
        due(text.chars().allMatch(c -> c == '\n' || c >= 32 && c < 127), "signs are plain");
        String code = text.replaceAll("(?s)/\\*.*?\\*/", "").replaceAll("//[^\n]*", "")
            .replaceAll("\"[^\"]*\"", "\"\"").replaceAll("'[^']'", "''");
        String[] words = {"throw", "throws", "try", "catch", "finally", "synchronized", "assert", "volatile", "transient",
            "native", "var", "yield", "sealed", "Random", "Thread", "Date", "Runtime", "equals", "hashCode", "toString",
            "float", "double", "Object", "Exception", "Error", "protected", "package"};
        for (String word : words) {
            due(!Pattern.compile("\\b" + word + "\\b").matcher(code).find(), "no " + word);
        }
        due(!code.contains("->") && !code.contains("::") && !code.contains("@"), "no lambda, reference, annotation");
        due(!code.contains("Exact("), "no function whose name ends in Exact");
        find(code, "import ([^;]+);", Set.of("java.util.Arrays"));
        find(code, "\\b(System\\.\\w+)", Set.of("System.arraycopy"));
        find(code, "\\b(Arrays\\.\\w+)", Set.of("Arrays.fill"));
        find(code, "\\b(Math\\.\\w+)", Set.of("Math.min", "Math.max", "Math.abs"));
        find(code, "\\b(Integer\\.\\w+)", Set.of("Integer.bitCount"));
        find(code, "\\b((?:Long|String|Byte|Short|Character)\\.\\w+)", Set.of());
        methods(code);
        made(code);
    }

    private static void find(String code, String pattern, Set<String> allowed) {
        Matcher m = Pattern.compile(pattern).matcher(code);
        while (m.find()) {
            due(allowed.contains(m.group(1)), m.group(1) + " is in the library's list");
        }
    }

    private static void methods(String code) {
        Matcher m = Pattern.compile("(?m)^( {4}| {8})(?! )[^\n;=]*\\([^\n]*\\) \\{\n").matcher(code);
        int n = 0;
        while (m.find()) {
            n++;
            int end = code.indexOf("\n" + m.group(1) + "}\n", m.end() - 1);
            due(end > 0 && code.substring(m.start(), end).split("\n").length <= 60, "short: " + m.group().trim());
        }
        due(n > FACE.length, "methods were found: " + n);
    }

    /** No call makes an object: new stands in fields and in constructors alone. */
    private static void made(String code) {
        for (String line : code.split("\n")) {
            boolean field = line.matches(" *private final .*= new .*;") || line.matches(" *final .*= new .*;");
            boolean shelf = line.trim().equals("shelves[i] = new Shelf();");
            due(!line.contains("new ") || field || shelf, "nothing is made in a call: " + line.trim());
        }
    }
}
