import java.io.IOException;
import java.lang.reflect.Field;
import java.lang.reflect.Method;
import java.lang.reflect.Modifier;
import java.nio.file.Files;
import java.nio.file.Path;
import java.util.List;
import java.util.TreeSet;
import java.util.regex.Matcher;
import java.util.regex.Pattern;

/** The rules of LANGUAGE.md that can be seen from the words of the file and the members of the class. */
public final class LanguageTest {
    private static final Path SOURCE = Path.of("src/main/java/AbsentMeansAbort.java");
    private static final Pattern REMARK = Pattern.compile("//.*|/\\*[\\s\\S]*?\\*/");
    // The class needs no library but Integer and no exception, so the test allows less than the rules do.
    private static final List<String> BARRED = List.of("\\bpackage\\b", "\\bimport\\b", "\\bthrows?\\b", "\\btry\\b",
            "\\bcatch\\b", "\\bfinally\\b", "\\bsynchronized\\b", "\\bassert\\b", "\\bvolatile\\b", "\\bnative\\b",
            "\\bprotected\\b", "->", "::", "\\bvar\\b", "\\bObject\\b", "\\bString\\b", "\\bSystem\\b", "\\bThread\\b",
            "\\bMath\\b", "\\bjava\\.", "\\bstatic \\{", "Exact\\b", "@");
    // After the constructor the rows that it made are used again: rows are made there or in a field's initialiser.
    private static final Pattern ALLOWED_NEW = Pattern.compile(
            " {8}(allNodes|transactions|row) = new .*| {12}\\w+\\[[nt]\\] = new .*| {8}final [\\w\\[\\]]+ \\w+ = new .*");

    private final Checks check = new Checks();

    public static void main(String[] args) throws IOException {
        LanguageTest test = new LanguageTest();
        String code = REMARK.matcher(Files.readString(SOURCE)).replaceAll("");
        test.barredWords(code);
        test.objectsMadeOnce(code);
        test.shortMethods(code);
        test.members();
        test.check.finish();
    }

    private void barredWords(String code) {
        check.about("rules 3, 4, 6 and 13");
        for (String word : BARRED) {
            Matcher found = Pattern.compile(word).matcher(code);
            check.due("the search for " + word, found.find(), false);
        }
    }

    private void objectsMadeOnce(String code) {
        check.about("rule 12");
        for (String line : code.split("\n")) {
            if (line.contains(" new ")) {
                check.due("makes an object in its place: " + line, ALLOWED_NEW.matcher(line).matches(), true);
            }
        }
    }

    private void shortMethods(String code) {
        check.about("rule 11");
        int start = -1;
        String[] lines = code.split("\n");
        for (int i = 0; i < lines.length; i++) {
            if (lines[i].matches("( {4}| {8})[a-z].*\\) \\{")) {
                start = i;
            } else if (start >= 0 && lines[i].equals(lines[start].replaceAll("\\S.*", "") + "}")) {
                check.due("at most 60 lines: " + lines[start].strip(), i - start < 60, true);
                start = -1;
            }
        }
        check.due("a method without an end", start, -1);
    }

    private void members() {
        Class<?>[] inside = AbsentMeansAbort.class.getDeclaredClasses();
        check.about("rule 11");
        check.due("at most twelve classes", inside.length + 1 <= 12, true);
        membersOf(AbsentMeansAbort.class);
        for (Class<?> one : inside) {
            check.about("rule 1");
            check.due(one.getName() + " is static", Modifier.isStatic(one.getModifiers()), true);
            membersOf(one);
        }
    }

    private void membersOf(Class<?> one) {
        check.about("rule 11");
        for (Method method : one.getDeclaredMethods()) {
            check.due(method + " has at most seven parameters", method.getParameterCount() <= 7, true);
        }
        int fields = 0;
        TreeSet<String> notFinal = new TreeSet<>();
        for (Field field : one.getDeclaredFields()) {
            if (!Modifier.isStatic(field.getModifiers())) {
                fields++;
            } else if (!Modifier.isFinal(field.getModifiers()) || field.getType() != int.class) {
                notFinal.add(field.getName());
            }
        }
        check.due(one.getName() + " has at most twenty fields", fields <= 20, true);
        check.about("rule 5");
        check.due("static fields that are no constants", notFinal.toString(), "[]");
    }
}
