import java.lang.reflect.Constructor;
import java.lang.reflect.Field;
import java.lang.reflect.Member;
import java.lang.reflect.Method;
import java.lang.reflect.Modifier;
import java.util.Arrays;
import java.util.Set;
import java.util.TreeSet;

/** The document's face, and no other member that can be seen. */
public final class FaceTest {
    private static final String[] METHODS = {
        "int row(int,int)", "int lay(int,int,int)", "int at(int,int)", "int tear(int)",
        "int copy(int,int,int,int,int)", "int mean(int)", "int text(int,int)", "int put(int,int,int)",
        "int fault(int)", "int country(int)", "int hound(int,int)", "int mark(int,int)", "int minutes(int,int)",
        "int head(int)", "int trail(int)", "int lure(int,int,int)", "int off(int)", "int wind(int)", "int paper()",
        "int empty(int)", "int keep(int)", "int on(int)", "int hares(int)", "int comes(int,int)",
        "int pack(int,int)", "int caught()", "int ahead()", "int call(int)", "int best()", "int fewest(int)",
        "int trails()", "int least(int)", "int route(int)", "int across(int,int,int)", "int parted(int,int)",
        "int chance(int,int)", "int mid(int)", "int run(int)", "int kinds(int)", "int gone(int)", "int asked()",
        "long upper()", "long lower()", "int count(int)", "int finding()", "int findings(int)", "long digest()"};

    public static void main(String[] args) throws Exception {
        Class<?> c = PaperTrail.class;
        Check.due("public final", c.getModifiers(), Modifier.PUBLIC | Modifier.FINAL);
        Set<String> want = new TreeSet<>(Arrays.asList(METHODS)), got = new TreeSet<>(), names = new TreeSet<>();
        for (Method m : c.getDeclaredMethods()) {
            if (isSeen(m)) {
                got.add(told(m));
                names.add(m.getName());
                Check.due(m.getName() + " is public, no more", m.getModifiers(), Modifier.PUBLIC);
            }
        }
        same("methods", got, want);
        noneBearsAPublicName(c, names);
        for (Class<?> inside : c.getDeclaredClasses()) {
            noneBearsAPublicName(inside, names);
            Check.due(inside + " is static", Modifier.isStatic(inside.getModifiers()) ? 1 : 0, 1);
            Check.due(inside + " is hidden", inside.getModifiers() & (Modifier.PUBLIC | Modifier.PROTECTED), 0);
        }
        constants(c);
        Constructor<?>[] made = c.getDeclaredConstructors();
        Check.due("constructors", made.length, 1);
        Check.due("public", made[0].getModifiers(), Modifier.PUBLIC);
        Check.due("without arguments", made[0].getParameterCount(), 0);
        Check.end();
    }

    private static boolean isSeen(Member m) {
        return !Modifier.isPrivate(m.getModifiers()) && !m.isSynthetic();
    }

    private static String told(Method m) {
        StringBuilder s = new StringBuilder(m.getReturnType() + " " + m.getName() + "(");
        for (Class<?> p : m.getParameterTypes()) {
            s.append(s.charAt(s.length() - 1) == '(' ? "" : ",").append(p);
        }
        return s.append(')').toString();
    }

    private static void same(String what, Set<String> got, Set<String> want) {
        if (!got.equals(want)) {
            Set<String> more = new TreeSet<>(got);
            more.removeAll(want);
            Set<String> fewer = new TreeSet<>(want);
            fewer.removeAll(got);
            Check.due(what + ", more " + more + ", missing " + fewer, more.size() + fewer.size(), 0);
        }
    }

    private static void noneBearsAPublicName(Class<?> c, Set<String> names) {
        for (Method m : c.getDeclaredMethods()) {
            boolean isFace = c == PaperTrail.class && Modifier.isPublic(m.getModifiers());
            Check.due(c + " " + m.getName() + " bears a public name", !isFace && names.contains(m.getName()) ? 1 : 0, 0);
        }
    }

    private static void constants(Class<?> c) throws Exception {
        Set<String> got = new TreeSet<>();
        for (Field f : c.getDeclaredFields()) {
            if (isSeen(f)) {
                Check.due(f.getName() + " is a constant", f.getModifiers(), Modifier.PUBLIC | Modifier.STATIC | Modifier.FINAL);
                got.add(f.getType() + " " + f.getName() + " " + f.getInt(null));
            }
        }
        same("constants", got, new TreeSet<>(Arrays.asList(
            "int BAD -1", "int FULL -2", "int FINDING -3", "int STATE -4", "int SPENT -6", "int NONE -9")));
    }
}
