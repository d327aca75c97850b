import java.io.File;
import java.nio.file.Files;
import java.nio.file.Path;
import java.util.ArrayList;
import java.util.List;
import java.util.concurrent.ExecutorService;
import java.util.concurrent.Executors;
import java.util.concurrent.Future;
import java.util.concurrent.TimeUnit;
import java.util.regex.Matcher;
import java.util.regex.Pattern;
import java.util.stream.Stream;
import javax.tools.ToolProvider;

/**
 * Changes one sign, number or statement of the class at a time and tells which changes a test lets live. Those that
 * live either mean the same or show a sentence that the test does not look at. Not a part of .ci/run: it takes minutes.
 *
 * From the project's folder: java src/test/tools/Mutants.java [test [first line [last line]]], EdgesTest without.
 */
public final class Mutants {
    private static final String CLASS = "src/main/java/VoteRoll.java";
    private static final String HELPERS = "src/test/java/support" + File.pathSeparator + "src/test/java/edges";

    private record Change(int line, String text, String what) {
    }

    public static void main(String[] args) throws Exception {
        String test = args.length > 0 ? args[0] : "EdgesTest";
        int first = args.length > 1 ? Integer.parseInt(args[1]) : 1;
        int last = args.length > 2 ? Integer.parseInt(args[2]) : Integer.MAX_VALUE;
        List<String> lines = Files.readAllLines(Path.of(CLASS));
        Path tests = Files.createTempDirectory("tests");
        compile("-sourcepath", HELPERS, "-d", tests.toString(), CLASS, "src/test/java/" + test + ".java");
        try (Stream<Path> files = Files.list(tests)) {
            for (Path file : files.filter(f -> f.getFileName().toString().startsWith("VoteRoll")).toList()) {
                Files.delete(file);
            }
        }
        List<Change> changes = changes(lines, first, last);
        System.out.println(changes.size() + " changes");
        ExecutorService crew = Executors.newFixedThreadPool(Runtime.getRuntime().availableProcessors());
        List<Future<Boolean>> ends = new ArrayList<>();
        for (Change change : changes) {
            ends.add(crew.submit(() -> lives(change, lines, tests, test)));
        }
        int alive = 0;
        for (int i = 0; i < ends.size(); i++) {
            if (ends.get(i).get()) {
                alive++;
                Change change = changes.get(i);
                System.out.println(change.line + ": " + change.what + " | " + lines.get(change.line - 1).trim());
            }
        }
        crew.shutdown();
        System.out.println(alive + " live");
    }

    private static boolean compile(String... words) {
        List<String> all = new ArrayList<>(List.of("-nowarn", "-encoding", "UTF-8", "-implicit:class"));
        all.addAll(List.of(words));
        java.io.OutputStream none = java.io.OutputStream.nullOutputStream();
        return ToolProvider.getSystemJavaCompiler().run(null, none, none, all.toArray(new String[0])) == 0;
    }

    private static boolean lives(Change change, List<String> lines, Path tests, String test) throws Exception {
        Path folder = Files.createTempDirectory("mutant");
        List<String> changed = new ArrayList<>(lines);
        changed.set(change.line - 1, change.text);
        Path file = folder.resolve("VoteRoll.java");
        Files.write(file, changed);
        boolean alive = false;
        if (compile("-d", folder.toString(), file.toString())) {
            Process run = new ProcessBuilder("java", "-XX:TieredStopAtLevel=1", "-XX:+UseSerialGC",
                    "-Dvoteroll.source=" + CLASS, "-cp", folder + File.pathSeparator + tests, test)
                    .redirectErrorStream(true).redirectOutput(ProcessBuilder.Redirect.DISCARD).start();
            alive = run.waitFor(60, TimeUnit.SECONDS) && run.exitValue() == 0;
            run.destroyForcibly();
        }
        try (Stream<Path> files = Files.list(folder)) {
            for (Path one : files.toList()) {
                Files.delete(one);
            }
        }
        Files.delete(folder);
        return alive;
    }

    private static List<Change> changes(List<String> lines, int first, int last) {
        List<Change> changes = new ArrayList<>();
        for (int i = first; i <= Math.min(last, lines.size()); i++) {
            String line = lines.get(i - 1);
            String trimmed = line.trim();
            if (trimmed.startsWith("/*") || trimmed.startsWith("*")) {
                continue;
            }
            // signs in texts and comments are not looked at
            String code = Pattern.compile("\"[^\"]*\"|//.*$").matcher(line).replaceAll(m -> " ".repeat(m.group().length()));
            replace(changes, i, line, code, " (<|>|<=|>=) ", "<:<=:>=", ">:>=:<=", "<=:<:>", ">=:>:<");
            replace(changes, i, line, code, "(==|!=|&&|\\|\\|)", "==:!=", "!=:==", "&&:||", "||:&&");
            replace(changes, i, line, code, " ([-+*/%]) ", "+:-", "-:+", "*:/", "/:*", "%:*");
            replace(changes, i, line, code, "(\\+\\+|--)", "++:--", "--:++");
            replace(changes, i, line, code, "\\b(true|false)\\b", "true:false", "false:true");
            replace(changes, i, line, code, "Math\\.(min|max)", "min:max", "max:min");
            replace(changes, i, line, code, "(!)[a-z(]", "!:");
            Matcher number = Pattern.compile("(?<![\\w.])(\\d+)(?!\\w)").matcher(code);
            while (number.find()) {
                int value = Integer.parseInt(number.group());
                put(changes, i, line, number.start(), number.end(), Integer.toString(value + 1));
                put(changes, i, line, number.start(), number.end(), value > 0 ? Integer.toString(value - 1) : "(-1)");
            }
            if (code.matches("^\\s+[\\w\\[\\]. +*/-]+(\\(.*\\)| [|^+*-]?= .*|\\+\\+|--);$")
                    && !code.matches("^\\s+(return|int|long|boolean|final|private|static|short|byte)\\b.*")) {
                changes.add(new Change(i, ";", "left out"));
            }
        }
        return changes;
    }

    /** Each rule is what stands there and what comes instead, parted by ":". */
    private static void replace(List<Change> changes, int i, String line, String code, String sought, String... rules) {
        Matcher found = Pattern.compile(sought).matcher(code);
        while (found.find()) {
            for (String rule : rules) {
                String[] words = rule.split(":", -1);
                if (words[0].equals(found.group(1))) {
                    for (int k = 1; k < words.length; k++) {
                        put(changes, i, line, found.start(1), found.end(1), words[k]);
                    }
                }
            }
        }
    }

    private static void put(List<Change> changes, int i, String line, int from, int to, String other) {
        changes.add(new Change(i, line.substring(0, from) + other + line.substring(to),
                line.substring(from, to) + " -> " + other));
    }
}
