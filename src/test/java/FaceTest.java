import java.io.IOException;
import java.lang.reflect.Constructor;
import java.lang.reflect.Field;
import java.lang.reflect.Method;
import java.lang.reflect.Modifier;
import java.nio.file.Files;
import java.nio.file.Path;
import java.util.ArrayList;
import java.util.Arrays;
import java.util.HashSet;
import java.util.List;
import java.util.Set;
import java.util.TreeSet;
import java.util.regex.Matcher;
import java.util.regex.Pattern;
import java.util.stream.Collectors;

/** The public face as the document gives it, and the rules of LANGUAGE.md that can be looked for. */
public final class FaceTest {
    private static final Path DOC = Path.of("../shared/DOC.md");
    private static final Path SOURCE = Path.of("src/main/java/OneAnswer.java");

    public static void main(String[] args) throws IOException {
        face();
        members();
        classesInside();
        headings(Files.readString(DOC), Files.readString(SOURCE));
        source(Files.readString(SOURCE));
        methods(Files.readAllLines(SOURCE));
        Check.end();
    }

    private static void so(String what, boolean got) {
        Check.due(what, got, true);
    }

    private static void face() throws IOException {
        String doc = Files.readString(DOC);
        int from = doc.indexOf("```java");
        Matcher line = Pattern.compile("public (int|long|boolean) (\\w+)\\((.*?)\\)( throws \\w+)?;")
            .matcher(doc.substring(from, doc.indexOf("```", from + 3)));
        Set<String> due = new TreeSet<>();
        while (line.find()) {
            String types = Arrays.stream(line.group(3).split(", ")).map(p -> p.split(" ")[0])
                .collect(Collectors.joining(","));
            String thrown = line.group(4) == null ? "" : line.group(4);
            due.add(line.group(1) + " " + line.group(2) + "(" + types + ")" + thrown);
        }
        Set<String> got = new TreeSet<>();
        for (Method m : OneAnswer.class.getDeclaredMethods()) {
            if (!Modifier.isPrivate(m.getModifiers())) {
                String types = Arrays.stream(m.getParameterTypes()).map(Class::getName).collect(Collectors.joining(","));
                String thrown = Arrays.stream(m.getExceptionTypes()).map(e -> " throws " + e.getSimpleName())
                    .collect(Collectors.joining());
                got.add(m.getReturnType().getName() + " " + m.getName() + "(" + types + ")" + thrown);
                so(m.getName() + " is public", Modifier.isPublic(m.getModifiers()));
            }
        }
        Check.due("calls of the document", due.size(), 53);
        so("the face is " + got + ", due is " + due, got.equals(due));
    }

    private static void members() {
        so("final", Modifier.isFinal(OneAnswer.class.getModifiers()));
        Constructor<?>[] made = OneAnswer.class.getDeclaredConstructors();
        so("one public constructor", made.length == 1 && made[0].getParameterCount() == 0
            && Modifier.isPublic(made[0].getModifiers()) && made[0].getExceptionTypes().length == 0);
        for (Field f : OneAnswer.class.getDeclaredFields()) {
            so(f.getName() + " is private", Modifier.isPrivate(f.getModifiers()) || f.getName().equals("NONE"));
        }
        Set<String> open = new HashSet<>();
        for (Method m : OneAnswer.class.getDeclaredMethods()) {
            if (Modifier.isPublic(m.getModifiers())) {
                open.add(m.getName());
            }
        }
        List<Class<?>> all = new ArrayList<>(List.of(OneAnswer.class.getDeclaredClasses()));
        all.add(OneAnswer.class);
        for (Class<?> c : all) {
            for (Method m : c.getDeclaredMethods()) {
                so(c.getSimpleName() + "." + m.getName() + " bears a public name",
                    Modifier.isPublic(m.getModifiers()) || !open.contains(m.getName()));
                so(m.getName() + " has at most seven parameters", m.getParameterCount() <= 7);
            }
        }
    }

    private static void classesInside() {
        Class<?>[] inside = OneAnswer.class.getDeclaredClasses();
        so("some twelve classes", inside.length <= 11);
        for (Class<?> c : inside) {
            so(c.getSimpleName() + " is static", Modifier.isStatic(c.getModifiers()));
            so(c.getSimpleName() + " is not public", !Modifier.isPublic(c.getModifiers()));
            int fields = 0;
            for (Field f : c.getDeclaredFields()) {
                if (Modifier.isStatic(f.getModifiers())) {
                    so(f.getName() + " is final", Modifier.isFinal(f.getModifiers()));
                } else {
                    fields++;
                }
            }
            so(c.getSimpleName() + " has some twenty fields", fields <= 20);
        }
    }

    /** What the interface says ahead of calls stands ahead of them in the class, too. */
    private static void headings(String doc, String source) {
        Matcher line = Pattern.compile("(?m)^Ahead of the calls (.*) the interface says: (---- .*)\\.$").matcher(doc);
        int headings = 0;
        int calls = 0;
        while (line.find()) {
            int from = source.indexOf("// " + line.group(2) + "\n");
            so(line.group(2) + " stands in the class", from >= 0);
            int to = source.indexOf("// ----", from + 1);
            Matcher call = Pattern.compile("public \\w+ (\\w+)\\(").matcher(source.substring(Math.max(from, 0), to));
            List<String> names = new ArrayList<>();
            while (call.find()) {
                names.add("`" + call.group(1) + "`");
            }
            so(line.group(2) + " is ahead of " + names, String.join(", ", names).equals(line.group(1)));
            headings++;
            calls += names.size();
        }
        Check.due("headings of the document", headings, 10);
        Check.due("calls under them", calls, 53);
    }

    private static void source(String text) {
        String code = text.replaceAll("(?s)/\\*.*?\\*/", "").replaceAll("//.*", "").replaceAll("\"[^\"]*\"", "\"\"");
        for (String word : List.of("package", "finally", "assert", "synchronized", "Thread", "Random", "var",
            "Exception", "RuntimeException", "Throwable", "ArrayIndexOutOfBoundsException", "NullPointerException",
            "ClassCastException", "NegativeArraySizeException", "ArrayStoreException", "System\\.(?!arraycopy)\\w+")) {
            so("no " + word, !Pattern.compile("\\b" + word + "\\b").matcher(code).find());
        }
        so("no lambda", !code.contains("->"));
        so("no method reference", !code.contains("::"));
        so("no static block", !Pattern.compile("static\\s*\\{").matcher(code).find());
        so("one import", code.split("\\bimport\\b", -1).length == 2
            && code.contains("import java.util.NoSuchElementException;"));
        so("signs 1 to 127", text.chars().allMatch(c -> c > 0 && c < 128));
    }

    private static void methods(List<String> lines) {
        int begun = -1;
        for (int i = 0; i < lines.size(); i++) {
            String line = lines.get(i);
            if (line.matches("( {4}| {8})(?!.*\\bclass\\b)[a-z].*\\) .*\\{")) {
                begun = i;
            }
            if (line.matches("( {4}| {8})}") && begun >= 0) {
                so("short: " + lines.get(begun), i - begun <= 60);
                begun = -1;
            }
            so("no line of over 120: " + line, line.length() <= 120);
        }
    }
}
