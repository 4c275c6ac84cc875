import java.lang.reflect.Field;
import java.lang.reflect.Modifier;
import java.nio.file.Files;
import java.nio.file.Path;
import java.util.List;
import java.util.Set;
import java.util.TreeSet;
import java.util.regex.Matcher;
import java.util.regex.Pattern;

/** Some of the rules of LANGUAGE.md that can be seen from the text and the classes; run from the project's folder. */
public final class LanguageTest {
    private static final Expect expect = new Expect();

    public static void main(String[] args) throws Exception {
        String source = Files.readString(Path.of("src/main/java/TamedClassSet.java"));
        String code = source.replaceAll("(?s)/\\*.*?\\*/", " ").replaceAll("//[^\n]*", " ");
        words(code);
        library(code);
        methodLengths(source);
        classes();
        expect.end();
    }

    private static void words(String code) {
        List<String> banned = List.of("package", "throw", "throws", "try", "catch", "finally", "synchronized", "assert", "native",
                "volatile", "transient", "hashCode", "Thread", "Random", "Object", "protected");
        for (String word : banned) expect.holds("no " + word, !Pattern.compile("\\b" + word + "\\b").matcher(code).find());
        expect.holds("no lambda or arrow", !code.contains("->"));
        expect.holds("no method reference", !code.contains("::"));
        expect.holds("no static block", !Pattern.compile("static\\s*\\{").matcher(code).find());
    }

    private static void library(String code) {
        Set<String> listed = Set.of("Arrays.copyOf", "Arrays.copyOfRange", "Arrays.fill", "System.arraycopy");
        Matcher arrays = Pattern.compile("\\b(Arrays|System)\\.\\w+").matcher(code);
        while (arrays.find()) expect.holds("listed: " + arrays.group(), listed.contains(arrays.group()));
        Matcher functions = Pattern.compile("\\b(Math|Integer|Long)\\.(\\w+)").matcher(code);
        while (functions.find()) {
            String name = functions.group(2);
            expect.holds("listed: " + functions.group(), !name.endsWith("Exact") && !name.equals("random"));
        }
        Matcher imports = Pattern.compile("import ([^;]*);").matcher(code);
        Set<String> importable = Set.of("java.util.Arrays", "java.util.ArrayList", "java.util.List", "java.util.Iterator");
        while (imports.find()) expect.holds("listed: " + imports.group(1), importable.contains(imports.group(1)));
    }

    /** A method ends with a brace that stands as far in as its head. */
    private static void methodLengths(String source) {
        String[] lines = source.split("\n");
        for (int from = 0; from < lines.length; from++) {
            Matcher head = Pattern.compile("^( {4}| {8})(?!.*\\bclass\\b)\\S.*\\) \\{$").matcher(lines[from]);
            if (!head.find()) continue;
            int to = from;
            while (to < lines.length && !lines[to].equals(head.group(1) + "}")) to++;
            expect.holds("short: " + lines[from].trim(), to - from <= 60);
        }
    }

    private static void classes() {
        Class<?>[] inside = TamedClassSet.class.getDeclaredClasses();
        expect.holds("at most some twelve classes", inside.length <= 12);
        Set<String> face = new TreeSet<>();
        for (var method : TamedClassSet.class.getDeclaredMethods()) {
            if (Modifier.isPublic(method.getModifiers())) face.add(method.getName());
        }
        for (var method : TamedClassSet.class.getDeclaredMethods()) {
            boolean isPrivate = Modifier.isPrivate(method.getModifiers());
            expect.holds("no name of the face: " + method, !isPrivate || !face.contains(method.getName()));
        }
        for (Class<?> c : inside) {
            expect.holds("static: " + c, Modifier.isStatic(c.getModifiers()));
            for (var method : c.getDeclaredMethods()) {
                boolean isPrivate = Modifier.isPrivate(method.getModifiers());
                expect.holds("no name of the face: " + method, !isPrivate || !face.contains(method.getName()));
                expect.holds("seven parameters: " + method, method.getParameterCount() <= 7);
            }
            int fields = 0;
            for (Field f : c.getDeclaredFields()) if (!Modifier.isStatic(f.getModifiers())) fields++;
            expect.holds("some twenty fields: " + c, fields <= 20);
        }
    }
}
