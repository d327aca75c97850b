import java.lang.reflect.Field;
import java.lang.reflect.Method;
import java.lang.reflect.Modifier;
import java.nio.file.Files;
import java.nio.file.Path;
import java.util.ArrayList;
import java.util.Arrays;
import java.util.List;
import java.util.TreeSet;
import java.util.regex.Matcher;
import java.util.regex.Pattern;

/** The rules of LANGUAGE.md that a look at the text and at the compiled class can hold. */
public final class LanguageTest {
    private static final String[] FACE = {"int feed(int,int,int,int,int)", "int end(int)", "int folds()", "int law()", "int fault()",
        "int record(int,int,int,int,int,int,int)", "int folded(int,int,int)", "int field(int,int,int)",
        "int terms(int,int,int,int,int,int)", "long odds(int,int,int)", "int person(int,int)", "int joined(int,int)",
        "int of(int,int,int,int)", "int led(int,int,int,int)", "int hide(int)", "int act(int,int,int,int)", "int vote(int)",
        "int cause(int,int,int)", "int line(int,int,int)", "int since(int,int,int)", "int lacks(int,int)", "int may(int,int,int)",
        "int ward(int,int,int,int)", "int tried(int,int,int)", "int doors(int,int,int,int)", "int missing(int,int)",
        "long luck(int,int,int,int,int)", "int chances(int,int,int)", "int costs(int,int)", "int wish(int)", "int clear()",
        "int caseOf(int,int,int)", "int plan(int,int,int)", "int planned(int)", "int count(int)", "int status()"};

    public static void main(String[] args) throws Exception {
        String source = System.getProperty("voteroll.source", "src/main/java/VoteRoll.java");
        String text = Files.readString(Path.of(source));
        String code = withoutComments(text);
        face();
        words(code.replaceAll("\"[a-z]*\"", "\"\""));
        shape(code);
        Desk.finish();
    }

    private static String withoutComments(String text) {
        return text.replaceAll("(?s)/\\*.*?\\*/", "").replaceAll("//[^\n]*", "");
    }

    private static void face() {
        TreeSet<String> due = new TreeSet<>();
        TreeSet<String> dueNames = new TreeSet<>();
        for (String method : FACE) {
            due.add("public " + method);
            dueNames.add(method.substring(method.indexOf(' ') + 1, method.indexOf('(')));
        }
        TreeSet<String> found = new TreeSet<>();
        int othersSeen = 0;
        for (Method m : VoteRoll.class.getDeclaredMethods()) {
            int mod = m.getModifiers();
            if (Modifier.isPublic(mod)) {
                found.add(m.toString().replace("VoteRoll.", ""));
            } else if (!Modifier.isPrivate(mod) && !m.isSynthetic()) {
                othersSeen++;
            } else if (dueNames.contains(m.getName())) {
                othersSeen++;
            }
        }
        Desk.due("rule 1: public methods", found.toString(), due.toString());
        Desk.due("rule 1: the class", Modifier.toString(VoteRoll.class.getModifiers()), "public final");
        for (Field f : VoteRoll.class.getDeclaredFields()) {
            boolean isNone = f.toString().equals("public static final int VoteRoll.NONE");
            othersSeen += isNone || Modifier.isPrivate(f.getModifiers()) ? 0 : 1;
        }
        for (Class<?> c : VoteRoll.class.getDeclaredClasses()) {
            boolean fine = Modifier.isPrivate(c.getModifiers()) && Modifier.isStatic(c.getModifiers());
            othersSeen += fine ? 0 : 1;
            Desk.due("rule 11: fields of " + c.getSimpleName(), objectFields(c) <= 20 ? 0 : objectFields(c), 0);
            for (Method m : c.getDeclaredMethods()) {
                othersSeen += dueNames.contains(m.getName()) ? 1 : 0;
            }
        }
        Desk.due("rule 1: members that should not be seen", othersSeen, 0);
        Desk.due("rule 1: constructors", Arrays.toString(VoteRoll.class.getDeclaredConstructors()), "[public VoteRoll()]");
        Desk.due("rule 11: fields of VoteRoll", objectFields(VoteRoll.class) <= 20 ? 0 : 1, 0);
        Desk.due("rule 11: classes", VoteRoll.class.getDeclaredClasses().length + 1 <= 12 ? 0 : 1, 0);
    }

    private static int objectFields(Class<?> c) {
        int n = 0;
        for (Field f : c.getDeclaredFields()) {
            n += Modifier.isStatic(f.getModifiers()) ? 0 : 1;
        }
        return n;
    }

    private static void words(String code) {
        String[] forbidden = {"\\bthrow\\b", "\\bthrows\\b", "\\btry\\b", "\\bcatch\\b", "\\bsynchronized\\b", "\\bassert\\b",
            "->", "::", "\\bimport\\b", "\\bpackage\\b", "Exact\\b", "\\bprotected\\b", "\\bdouble\\b", "\\bfloat\\b",
            "\\bhashCode\\b", "\\btoString\\b", "\\bvar\\b", "\\bObject\\b", "\\bRandom\\b", "System\\.(?!arraycopy)",
            "Math\\.(?!min|max|abs)", "\\bstatic\\s*\\{", "\"\\s*\\+", "\\+\\s*\""};
        for (String word : forbidden) {
            Matcher m = Pattern.compile(word).matcher(code);
            Desk.due("forbidden " + word, m.find() ? "found" : "none", "none");
        }
        Matcher statics = Pattern.compile("\\bstatic\\s+(?!final\\b)(?!class\\b)[\\w\\[\\]]+\\s+\\w+\\s*[=;]").matcher(code);
        Desk.due("rule 5: static fields that are not final", statics.find() ? statics.group() : "none", "none");
        boolean plain = true;
        for (int i = 0; i < code.length(); i++) {
            plain &= code.charAt(i) < 128;
        }
        Desk.due("signs of the text", plain ? "plain" : "others", "plain");
    }

    /** Methods stay short, take at most seven parameters, and make nothing but in constructors and where rows grow. */
    private static void shape(String code) {
        String[] lines = code.split("\n");
        Pattern head = Pattern.compile("^( {4}| {8})(?:[\\w\\[\\]]+ )*(\\w+)\\(([^)]*)\\) \\{$");
        List<String> tooLong = new ArrayList<>();
        List<String> makers = new ArrayList<>();
        for (int i = 0; i < lines.length; i++) {
            Matcher m = head.matcher(lines[i]);
            if (!m.find()) {
                continue;
            }
            int to = i;
            while (!lines[to].equals(m.group(1) + "}")) {
                if (lines[to].contains("new ") && !Character.isUpperCase(m.group(2).charAt(0))) {
                    makers.add(m.group(2));
                }
                to++;
            }
            if (to - i > 60 || m.group(3).split(",").length > 7) {
                tooLong.add(m.group(2));
            }
        }
        Desk.due("rule 11: methods too long", tooLong.toString(), "[]");
        // these alone double their rows
        makers.removeAll(List.of("makeRoomForNames", "likenAll", "sortPairs"));
        Desk.due("rule 12: methods that make something", makers.toString(), "[]");
    }
}
