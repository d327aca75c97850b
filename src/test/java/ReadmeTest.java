import java.lang.reflect.Method;
import java.net.URL;
import java.net.URLClassLoader;
import java.nio.file.Files;
import java.nio.file.Path;
import java.util.ArrayList;
import java.util.List;
import java.util.regex.Matcher;
import java.util.regex.Pattern;
import javax.tools.ToolProvider;

/** README.md's own examples: compiled as they stand there, each call held against the answer behind it. */
public final class ReadmeTest {
    private static final Pattern CALL = Pattern.compile("^(roll\\.\\w+\\(.*\\));\\s*// (-?\\d+): .*$");

    public static void main(String[] args) throws Exception {
        String text = Files.readString(Path.of(System.getProperty("voteroll.readme", "README.md")));
        List<String> examples = examples(text);
        Desk.due("README's examples", examples.size(), 2);
        if (examples.size() == 2) {
            run(examples.get(0), examples.get(1));
        }
        everyCallIsNamed(text);
        Desk.finish();
    }

    private static List<String> examples(String text) {
        List<String> found = new ArrayList<>();
        Matcher m = Pattern.compile("(?s)```java\n(.*?)```").matcher(text);
        while (m.find()) {
            found.add(m.group(1));
        }
        return found;
    }

    private static void run(String helper, String steps) throws Exception {
        Path place = Files.createTempDirectory("readme");
        Path source = place.resolve("ReadmeExample.java");
        Files.writeString(source, "public final class ReadmeExample {\n" + helper
                + "public static void run(java.util.List<Object> out) {\n" + held(steps) + "}\n}\n");
        String classes = System.getProperty("java.class.path");
        int refused = ToolProvider.getSystemJavaCompiler().run(null, null, null, "-cp", classes, "-d", place.toString(),
                source.toString());
        Desk.due("README's examples are Java", refused, 0);
        if (refused == 0) {
            List<Object> out = new ArrayList<>();
            try (URLClassLoader loader = new URLClassLoader(new URL[] {place.toUri().toURL()})) {
                Method method = loader.loadClass("ReadmeExample").getMethod("run", List.class);
                method.invoke(null, out);
            }
            for (int i = 0; i + 2 < out.size(); i += 3) {
                Desk.due("README: " + out.get(i), ((Number) out.get(i + 1)).longValue(), ((Number) out.get(i + 2)).longValue());
            }
        }
        for (String name : new String[] {"ReadmeExample.java", "ReadmeExample.class"}) {
            Files.deleteIfExists(place.resolve(name));
        }
        Files.deleteIfExists(place);
    }

    /** Each call with an answer behind it puts down the call, what it answered, what README says. */
    private static String held(String steps) {
        StringBuilder code = new StringBuilder();
        for (String line : steps.split("\n")) {
            Matcher m = CALL.matcher(line);
            if (m.matches()) {
                code.append("out.add(\"").append(m.group(1)).append("\"); out.add((long) ").append(m.group(1))
                        .append("); out.add(").append(m.group(2)).append("L);\n");
            } else {
                Desk.due("README tells the answer of: " + line, line.startsWith("roll.") ? "no" : "yes", "yes");
                code.append(line).append("\n");
            }
        }
        return code.toString();
    }

    private static void everyCallIsNamed(String text) {
        for (Method m : VoteRoll.class.getMethods()) {
            if (m.getDeclaringClass() == VoteRoll.class) {
                Desk.due("README names " + m.getName(), text.contains("`" + m.getName() + "`") ? 1 : 0, 1);
            }
        }
    }
}
