import java.io.IOException;
import java.nio.file.Files;
import java.nio.file.Path;
import java.util.HashSet;
import java.util.Map;
import java.util.Set;
import java.util.TreeMap;
import java.util.TreeSet;
import java.util.regex.Matcher;
import java.util.regex.Pattern;

/** What of LANGUAGE.md can be seen in the class's text; its members are FaceTest's. */
public final class LanguageTest {
    private static final Due due = new Due("LanguageTest");
    private static final Path PLACE = Path.of("src/main/java/SendForMore.java");
    private static final String[] RULED_OUT = {"\\b(package|import|throws?|try|catch|finally|synchronized|assert)\\b",
        "->", "::", "\\b\\w+Exact\\b", "\\bSystem\\.(?!arraycopy\\b)", "\\bMath\\.(?!(min|max|abs)\\b)",
        "\\b(double|float|Object|Thread|Runtime|equals|hashCode|toString)\\b", "\\bstatic \\{", "\\bnew \\w+\\(.*\\) \\{"};
    private static final Pattern HEAD = Pattern.compile("(?m)^( {4}| {8})(?! |return|new|else)[\\w\\[\\] ]*?(\\w+)\\([^;{]*\\) \\{$");
    private static final Pattern CALL = Pattern.compile("(?<!new )\\b(\\w+)\\(");
    private static final Pattern FIELD = Pattern.compile("(?m)^ {4,8}(?!return|static|private static|public static)[\\w\\[\\] ]+ \\w+( = [^;]*)?;$");
    private static final int MOST_LINES = 60, DEEPEST = 8, MOST_CLASSES = 12, MOST_FIELDS = 20;

    private final String text;
    /** By a method's name; methods of one name in several classes are taken for one, which is no less strict. */
    private final Map<String, Set<String>> calls = new TreeMap<>();

    private LanguageTest(String source) {
        text = source.replaceAll("(?s)/\\*.*?\\*/", "").replaceAll("//.*", "");
    }

    public static void main(String[] args) throws IOException {
        LanguageTest test = new LanguageTest(Files.readString(PLACE));
        test.words();
        test.methods();
        test.depth();
        test.classes();
        due.end();
    }

    private void words() {
        for (String ruledOut : RULED_OUT) {
            Matcher found = Pattern.compile(ruledOut).matcher(text);
            due.isTrue(ruledOut + " is not there", !found.find());
        }
        due.isTrue("all static fields are final", !Pattern.compile("\\bstatic (?!final )[\\w\\[\\]]+ \\w+( =|;)").matcher(text).find());
    }

    private void methods() {
        Matcher head = HEAD.matcher(text);
        while (head.find()) {
            int end = text.indexOf("\n" + head.group(1) + "}", head.end());
            String body = text.substring(head.end(), end);
            due.isTrue(head.group(2) + " is short", body.split("\n").length <= MOST_LINES);
            Matcher call = CALL.matcher(body);
            while (call.find()) {
                calls.computeIfAbsent(head.group(2), name -> new TreeSet<>()).add(call.group(1));
            }
        }
        due.isTrue("methods are found: " + calls.keySet(), calls.containsKey("bestPair") && calls.containsKey("passFrom"));
    }

    private void depth() {
        for (String name : calls.keySet()) {
            int deep = depthOf(name, new HashSet<>());
            due.isTrue(name + " goes " + deep + " calls deep", deep <= DEEPEST);
        }
    }

    private int depthOf(String name, Set<String> open) {
        if (!open.add(name)) {
            return DEEPEST + 1;
        }
        int deepest = 0;
        for (String called : calls.getOrDefault(name, Set.of())) {
            deepest = Math.max(deepest, depthOf(called, open));
        }
        open.remove(name);
        return 1 + deepest;
    }

    private void classes() {
        String[] parts = text.split("(?m)^ *[a-z ]*\\bclass ");
        due.isTrue(parts.length - 1 + " classes", parts.length > 2 && parts.length - 1 <= MOST_CLASSES);
        for (int i = 1; i < parts.length; i++) {
            int fields = 0;
            // Fields stand ahead of the first method of their class; local ones stand deeper.
            Matcher head = HEAD.matcher(parts[i]);
            Matcher field = FIELD.matcher(parts[i].substring(0, head.find() ? head.start() : parts[i].length()));
            while (field.find()) {
                fields++;
            }
            due.isTrue(parts[i].split("\\W", 2)[0] + " has " + fields + " fields", fields <= MOST_FIELDS);
        }
    }
}
