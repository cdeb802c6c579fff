import java.lang.reflect.Field;
import java.lang.reflect.Modifier;
import java.nio.file.Files;
import java.nio.file.Path;
import java.util.List;
import java.util.regex.Matcher;
import java.util.regex.Pattern;

/** What of LANGUAGE.md can be seen in the lines of the source. */
public final class LanguageTest {
    private static final String[] FORBIDDEN = {
        "\\bthrow\\b", "\\bthrows\\b", "\\btry\\b", "\\bcatch\\b", "\\bsynchronized\\b", "\\bassert\\b", "\\bpackage\\b",
        "->", "::", "Exact\\b", "\\bprotected\\b", "\\bvar\\b", "\\bMAX_VALUE\\b", "\\bMIN_VALUE\\b",
        "static \\{", "\"", "\\bequals\\b", "\\bhashCode\\b", "\\btoString\\b", "\\bvalues\\(\\)", "\\bclone\\b",
        "\\bdouble\\b", "\\bfloat\\b", "\\bObject\\b", "while \\(true\\)", "for \\(;;\\)"};
    private static final Pattern METHOD =
        Pattern.compile("^ {4,8}(?:[a-z]+ )*[A-Za-z\\[\\]]+(?: [A-Za-z]+)?\\((.*)\\) \\{$");

    public static void main(String[] args) throws Exception {
        List<String> lines = Files.readAllLines(Path.of("src/main/java/PaperTrail.java"));
        int classes = 0, begun = -1;
        boolean makes = false;
        for (int n = 0; n < lines.size(); n++) {
            String line = lines.get(n);
            String code = line.replaceAll("//.*|/\\*.*", "").replaceAll("^ *\\*.*", "");
            String where = "line " + (n + 1) + ": " + line.trim();
            forbid(where, code);
            classes += code.matches(".*\\bclass .*") ? 1 : 0;
            Matcher m = METHOD.matcher(code);
            if (m.matches() && !code.contains("class ")) {
                begun = n;
                makes = code.matches(" *(public )?[A-Z][A-Za-z]*\\(.*");
                Check.due(where + ": over seven parameters", m.group(1).split(",").length > 7 ? 1 : 0, 0);
            }
            if (code.matches(" {4}(?: {4})?\\}") && begun >= 0) {
                Check.due(where + ": end of a method of over 60 lines", n - begun > 60 ? 1 : 0, 0);
                begun = -1;
            }
            // calls make nothing: all is made in constructors
            Check.due(where + ": made outside a constructor", code.contains("new ") && !makes ? 1 : 0, 0);
            Check.due(where + ": an outside sign", code.chars().anyMatch(c -> c > 126) ? 1 : 0, 0);
        }
        Check.due("over twelve classes", classes > 12 ? 1 : 0, 0);
        fieldsOf(PaperTrail.class);
        for (Class<?> inside : PaperTrail.class.getDeclaredClasses()) {
            fieldsOf(inside);
            Check.due(inside + " has classes inside", inside.getDeclaredClasses().length, 0);
        }
        Check.end();
    }

    /** Rules 5 and 11: static fields are constants, a class has some twenty others at most. */
    private static void fieldsOf(Class<?> c) {
        int many = 0;
        for (Field f : c.getDeclaredFields()) {
            boolean isStatic = Modifier.isStatic(f.getModifiers());
            many += isStatic ? 0 : 1;
            boolean isConstant = Modifier.isFinal(f.getModifiers()) && (f.getType() == int.class || f.getType() == int[].class);
            Check.due(f + " is static, and no constant", isStatic && !isConstant ? 1 : 0, 0);
        }
        Check.due(c + " has over twenty fields", many > 20 ? 1 : 0, 0);
    }

    private static void forbid(String where, String code) {
        for (String word : FORBIDDEN) {
            Check.due(where + ": " + word, Pattern.compile(word).matcher(code).find() ? 1 : 0, 0);
        }
    }
}
