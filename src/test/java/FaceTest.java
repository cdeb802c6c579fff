import java.lang.reflect.Constructor;
import java.lang.reflect.Field;
import java.lang.reflect.Member;
import java.lang.reflect.Method;
import java.lang.reflect.Modifier;
import java.nio.file.Files;
import java.nio.file.Path;
import java.util.Set;
import java.util.TreeSet;
import java.util.regex.Matcher;
import java.util.regex.Pattern;

/** The document's face, and no other member that can be seen. */
public final class FaceTest {
    private static final Pattern METHOD = Pattern.compile("public (int|long) ([a-z]+)\\((.*)\\);");
    private static final Pattern CONSTANT = Pattern.compile("\\b([A-Z]+) = (-?[0-9]+)");

    public static void main(String[] args) throws Exception {
        Class<?> c = PaperTrail.class;
        Check.due("public final", c.getModifiers(), Modifier.PUBLIC | Modifier.FINAL);
        String face = faceOfDocument();
        Set<String> got = new TreeSet<>(), names = new TreeSet<>();
        for (Method m : c.getDeclaredMethods()) {
            if (isSeen(m)) {
                got.add(told(m));
                names.add(m.getName());
                Check.due(m.getName() + " is public, no more", m.getModifiers(), Modifier.PUBLIC);
            }
        }
        same("methods", got, methodsOf(face));
        noneBearsAPublicName(c, names);
        for (Class<?> inside : c.getDeclaredClasses()) {
            noneBearsAPublicName(inside, names);
            Check.due(inside + " is static", Modifier.isStatic(inside.getModifiers()) ? 1 : 0, 1);
            Check.due(inside + " is hidden", inside.getModifiers() & (Modifier.PUBLIC | Modifier.PROTECTED), 0);
        }
        same("constants", constantsOf(c), constantsOf(face));
        Constructor<?>[] made = c.getDeclaredConstructors();
        Check.due("constructors", made.length, 1);
        Check.due("public", made[0].getModifiers(), Modifier.PUBLIC);
        Check.due("without arguments", made[0].getParameterCount(), 0);
        Check.end();
    }

    private static boolean isSeen(Member m) {
        return !Modifier.isPrivate(m.getModifiers()) && !m.isSynthetic();
    }

    private static String told(Method m) {
        StringBuilder s = new StringBuilder(m.getReturnType() + " " + m.getName() + "(");
        for (Class<?> p : m.getParameterTypes()) {
            s.append(s.charAt(s.length() - 1) == '(' ? "" : ",").append(p);
        }
        return s.append(')').toString();
    }

    private static void same(String what, Set<String> got, Set<String> want) {
        if (!got.equals(want)) {
            Set<String> more = new TreeSet<>(got);
            more.removeAll(want);
            Set<String> fewer = new TreeSet<>(want);
            fewer.removeAll(got);
            Check.due(what + ", more " + more + ", missing " + fewer, more.size() + fewer.size(), 0);
        }
    }

    private static void noneBearsAPublicName(Class<?> c, Set<String> names) {
        for (Method m : c.getDeclaredMethods()) {
            boolean isFace = c == PaperTrail.class && Modifier.isPublic(m.getModifiers());
            Check.due(c + " " + m.getName() + " bears a public name", !isFace && names.contains(m.getName()) ? 1 : 0, 0);
        }
    }

    private static Set<String> constantsOf(Class<?> c) throws Exception {
        Set<String> got = new TreeSet<>();
        for (Field f : c.getDeclaredFields()) {
            if (isSeen(f)) {
                Check.due(f.getName() + " is a constant", f.getModifiers(), Modifier.PUBLIC | Modifier.STATIC | Modifier.FINAL);
                got.add(f.getType() + " " + f.getName() + " " + f.getInt(null));
            }
        }
        return got;
    }

    private static String faceOfDocument() throws Exception {
        String document = Files.readString(Path.of("../shared/DOC.md"));
        int begins = document.indexOf("```java");
        return document.substring(begins, document.indexOf("\n```", begins));
    }

    private static Set<String> methodsOf(String face) {
        Set<String> due = new TreeSet<>();
        Matcher m = METHOD.matcher(face);
        while (m.find()) {
            due.add(m.group(1) + " " + m.group(2) + "(" + m.group(3).replaceAll(" \\w+(, )?", ",").replaceAll(",$", "") + ")");
        }
        Check.due("methods of the document", due.size(), 47);
        return due;
    }

    private static Set<String> constantsOf(String face) {
        Set<String> due = new TreeSet<>();
        Matcher m = CONSTANT.matcher(face);
        while (m.find()) {
            due.add("int " + m.group(1) + " " + m.group(2));
        }
        Check.due("constants of the document", due.size(), 6);
        return due;
    }
}
