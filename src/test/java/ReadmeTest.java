import java.lang.reflect.Method;
import java.nio.file.Files;
import java.nio.file.Path;
import java.util.HashMap;
import java.util.Map;
import java.util.regex.Matcher;
import java.util.regex.Pattern;

/** The calls that README.md shows answer what stands behind them; run from the project's folder. */
public final class ReadmeTest {
    private static final Pattern CALL = Pattern.compile("(?:int (\\w+) = )?set\\.(\\w+)\\(([^)]*)\\);\\s*// ([^:]*).*");
    private static final Expect expect = new Expect();
    private static final Map<String, Long> names = new HashMap<>();

    public static void main(String[] args) throws Exception {
        String readme = Files.readString(Path.of("README.md"));
        Map<String, Method> face = new HashMap<>();
        for (Method m : TamedClassSet.class.getMethods()) {
            if (m.getDeclaringClass() == TamedClassSet.class) face.put(m.getName(), m);
        }
        for (String name : face.keySet()) expect.holds("it tells of " + name, readme.contains("| `" + name + "("));
        for (var field : TamedClassSet.class.getFields()) names.put(field.getName(), field.getLong(null));
        int from = readme.indexOf("```java\n") + 8;
        String[] lines = readme.substring(from, readme.indexOf("```", from)).split("\n");
        expect.holds("the first line makes the set", lines[0].equals("TamedClassSet set = new TamedClassSet();"));
        TamedClassSet set = new TamedClassSet();
        for (int k = 1; k < lines.length; k++) follow(set, lines[k], face);
        expect.end();
    }

    private static void follow(TamedClassSet set, String line, Map<String, Method> face) throws Exception {
        Matcher call = CALL.matcher(line);
        boolean isCall = call.matches() && face.containsKey(call.group(2));
        expect.holds("a call: " + line, isCall);
        if (!isCall) return;
        Method method = face.get(call.group(2));
        Object[] given = new Object[method.getParameterCount()];
        String[] told = call.group(3).split(", ");
        for (int k = 0; k < given.length; k++) given[k] = (int) value(told[k]);
        Object answer = method.invoke(set, given);
        if (answer == null) return;
        expect.due(line, ((Number) answer).longValue(), value(call.group(4)));
        if (call.group(1) != null) names.put(call.group(1), ((Number) answer).longValue());
    }

    private static long value(String words) {
        long sum = 0;
        for (String word : words.split(" \\+ ")) sum += names.containsKey(word) ? names.get(word) : Long.parseLong(word);
        return sum;
    }
}
