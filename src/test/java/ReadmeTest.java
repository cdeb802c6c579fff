import java.io.ByteArrayOutputStream;
import java.io.File;
import java.io.PrintStream;
import java.net.URL;
import java.net.URLClassLoader;
import java.nio.charset.StandardCharsets;
import java.nio.file.Files;
import java.nio.file.Path;
import java.util.regex.Matcher;
import java.util.regex.Pattern;
import javax.tools.ToolProvider;

/** README.md: its program prints what the page says; every call, constant and test is named. */
public final class ReadmeTest {
    private static final Pattern METHOD = Pattern.compile("public (?:int|long) ([a-z]+)\\((.*)\\);");
    private static final Pattern CONSTANT = Pattern.compile("\\b([A-Z]+) = (-?[0-9]+)");

    public static void main(String[] args) throws Exception {
        String page = Files.readString(Path.of("README.md"));
        String document = Files.readString(Path.of("../shared/DOC.md"));
        same(printedBy(block(page, "java")), block(page, "text"));
        String face = block(document, "java");
        nameCalls(page, face);
        nameConstants(page, face);
        nameTests(page);
        Check.end();
    }

    private static String block(String page, String language) {
        int begins = page.indexOf("```" + language + "\n");
        int first = page.indexOf('\n', begins) + 1;
        int behind = page.indexOf("```", first);
        Check.due("a block of " + language, begins >= 0 && behind > first ? 1 : 0, 1);
        return page.substring(first, behind);
    }

    private static String printedBy(String program) throws Exception {
        Path made = Files.createTempDirectory("readme");
        File source = made.resolve("Example.java").toFile();
        Files.writeString(source.toPath(), program);
        int answer = ToolProvider.getSystemJavaCompiler().run(null, null, null,
            "-Xlint:all", "-cp", System.getProperty("java.class.path"), "-d", made.toString(), source.toString());
        Check.due("compiling the program of README.md", answer, 0);
        PrintStream out = System.out;
        ByteArrayOutputStream printed = new ByteArrayOutputStream();
        try (URLClassLoader loader = new URLClassLoader(new URL[] {made.toUri().toURL()})) {
            System.setOut(new PrintStream(printed, true, StandardCharsets.UTF_8));
            loader.loadClass("Example").getMethod("main", String[].class).invoke(null, (Object) new String[0]);
        } finally {
            System.setOut(out);
            for (File file : made.toFile().listFiles()) {
                file.delete();
            }
            made.toFile().delete();
        }
        return printed.toString(StandardCharsets.UTF_8).replace("\r\n", "\n");
    }

    private static void same(String printed, String told) {
        String[] got = printed.split("\n"), want = told.split("\n");
        Check.due("lines that the program of README.md prints", got.length, want.length);
        for (int n = 0; n < Math.min(got.length, want.length); n++) {
            Check.due("it prints '" + got[n] + "', README.md says '" + want[n] + "':", got[n].equals(want[n]) ? 1 : 0, 1);
        }
    }

    private static void nameCalls(String page, String face) {
        Matcher m = METHOD.matcher(face);
        int many = 0;
        while (m.find()) {
            String call = m.group(1) + "(" + m.group(2).replaceAll("int (\\w+)", "$1") + ")";
            Check.due("README.md names " + call, page.contains("`" + call + "`") ? 1 : 0, 1);
            many++;
        }
        Check.due("calls", many, 47);
    }

    private static void nameConstants(String page, String face) {
        Matcher m = CONSTANT.matcher(face);
        int many = 0;
        while (m.find()) {
            String told = "`" + m.group(1) + "` (?:\\| |\\()" + m.group(2) + "(?: \\||\\))";
            Check.due("README.md tells the value of " + m.group(1), Pattern.compile(told).matcher(page).find() ? 1 : 0, 1);
            many++;
        }
        Check.due("constants", many, 6);
    }

    private static void nameTests(String page) {
        for (String name : new File("src/test/java").list()) {
            if (name.endsWith("Test.java")) {
                String test = name.substring(0, name.length() - ".java".length());
                Check.due("README.md names " + test, page.contains("`" + test + "`") ? 1 : 0, 1);
            }
        }
    }
}
