import java.io.IOException;
import java.lang.reflect.Field;
import java.lang.reflect.Method;
import java.lang.reflect.Modifier;
import java.nio.file.Files;
import java.nio.file.Path;
import java.util.HashSet;
import java.util.List;
import java.util.Set;
import java.util.regex.Matcher;
import java.util.regex.Pattern;

/** What of ../shared/LANGUAGE.md can be seen without a reader: the face, and words that may not stand. */
public final class LanguageTest {
    private static final Path SOURCE = Path.of("src/main/java/RailPasses.java");
    private static final int LONGEST_METHOD = 60;
    private static final Set<String> FACE = Set.of("line", "train", "of", "days", "feed", "read", "law", "sell", "pass",
        "may", "ride", "rideOf", "giveBack", "taken", "lose", "wish", "unwish", "choice", "least", "prove", "row", "forge",
        "check", "scan", "miles", "way", "ridden", "part", "account", "many", "keep", "back");
    private static final Set<String> CONSTANTS = Set.of("NUMBER", "FULL", "NONE", "STATE");

    private final Due due = new Due("LanguageTest");

    public static void main(String[] args) throws IOException {
        LanguageTest t = new LanguageTest();
        t.face();
        t.names();
        String code = withoutTextsAndComments(Files.readString(SOURCE));
        t.words(code);
        t.lengths(code);
        t.due.end();
    }

    private void face() {
        due.holds("class is public", Modifier.isPublic(RailPasses.class.getModifiers()));
        due.holds("class is final", Modifier.isFinal(RailPasses.class.getModifiers()));
        Set<String> open = new HashSet<>();
        for (Method method : RailPasses.class.getDeclaredMethods()) {
            boolean isPublic = Modifier.isPublic(method.getModifiers());
            due.holds(method.getName() + " is public or private", isPublic || Modifier.isPrivate(method.getModifiers()));
            due.holds(method.getName() + " is of the face just if public", isPublic == FACE.contains(method.getName()));
            if (isPublic) due.holds(method.getName() + " is there once", open.add(method.getName()));
        }
        due.is("public methods", open.size(), FACE.size());
        for (Field field : RailPasses.class.getDeclaredFields()) {
            boolean isPublic = Modifier.isPublic(field.getModifiers());
            due.holds(field.getName() + " is public or private", isPublic || Modifier.isPrivate(field.getModifiers()));
            due.holds(field.getName() + " is of the face just if public", isPublic == CONSTANTS.contains(field.getName()));
        }
        due.is("constructors", RailPasses.class.getDeclaredConstructors().length, 1);
    }

    private void names() {
        Class<?>[] inside = RailPasses.class.getDeclaredClasses();
        due.holds("at most twelve classes", inside.length < 12);
        for (Class<?> c : inside) {
            due.holds(c + " is static", Modifier.isStatic(c.getModifiers()));
            int fields = 0;
            for (Field field : c.getDeclaredFields()) {
                if (Modifier.isStatic(field.getModifiers())) {
                    due.holds(field + " is final", Modifier.isFinal(field.getModifiers()));
                } else {
                    fields++;
                }
            }
            due.holds(c + " has at most twenty fields", fields <= 20);
            for (Method method : c.getDeclaredMethods()) {
                due.holds(method + " has another name than the face's", !FACE.contains(method.getName()));
                due.holds(method + " takes at most seven", method.getParameterCount() <= 7);
            }
        }
    }

    private void words(String code) {
        List<String> barred = List.of("\\bthrow\\b", "\\bthrows\\b", "\\btry\\b", "\\bcatch\\b", "\\bsynchronized\\b",
            "\\bassert\\b", "->", "::", "\\bimport\\b", "\\bpackage\\b", "Exact\\b", "\\bSystem\\.(?!arraycopy)",
            "\\bdouble\\b", "\\bfloat\\b", "\\bprotected\\b", "static \\{", "\\b(Integer|Long)\\.[A-Z]", "@");
        for (String word : barred) {
            Matcher m = Pattern.compile(word).matcher(code);
            due.holds("no " + word, !m.find());
        }
        // All is made when an object is made: no call makes anything.
        for (String line : code.split("\n")) {
            if (line.contains(" new ")) {
                due.holds("made in a constructor: " + line.strip(), line.contains("final ") || line.contains("this.cells = new int["));
            }
        }
    }

    private void lengths(String code) {
        String[] lines = code.split("\n");
        for (int i = 0; i < lines.length; i++) {
            if (!lines[i].matches("( {4}| {8})[A-Za-z][A-Za-z .\\[\\]]*\\(.*\\{")) continue;
            String indent = lines[i].replaceAll("\\S.*", "");
            if (lines[i].strip().matches("(if|for|while|switch|return|do)\\b.*")) continue;
            int end = i;
            while (end < lines.length - 1 && !lines[end].equals(indent + "}")) end++;
            due.holds("short: " + lines[i].strip(), end - i < LONGEST_METHOD);
        }
    }

    private static String withoutTextsAndComments(String source) {
        return source.replaceAll("(?s)/\\*.*?\\*/", "").replaceAll("//[^\n]*", "").replaceAll("\"[^\"\n]*\"", "\"\"");
    }
}
