import java.lang.reflect.Method;
import java.lang.reflect.Modifier;
import java.util.ArrayList;
import java.util.Comparator;
import java.util.List;
import java.util.Random;

/** Any calls with any arguments: none throws, what is refused changes nothing but finding() and findings(). */
public final class RefusalTest {
    private static final int OBJECTS = 400, CALLS = 512;
    private static final Random DICE = new Random(48271);
    private static final int[] EDGES = {
        Integer.MIN_VALUE, Integer.MIN_VALUE + 1, -1000, -10, -9, -2, -1, 7, 8, 9, 10, 31, 32, 33, 40, 41, 63, 64,
        80, 81, 99, 100, 127, 128, 999, 1000, 1 << 30, Integer.MAX_VALUE - 1, Integer.MAX_VALUE};

    public static void main(String[] args) throws Exception {
        List<Method> calls = new ArrayList<>();
        for (Method m : PaperTrail.class.getDeclaredMethods()) {
            if (Modifier.isPublic(m.getModifiers())) {
                calls.add(m);
            }
        }
        calls.sort(Comparator.comparing(Method::getName));
        for (int n = 0; n < OBJECTS; n++) {
            useOne(calls);
        }
        Check.end();
    }

    private static void useOne(List<Method> calls) throws Exception {
        PaperTrail x = new PaperTrail();
        if (DICE.nextInt(8) != 0) {
            Check.write(x, 0, "c7" + DICE.nextInt(10) + "hqsalt".substring(DICE.nextInt(3)).substring(0, 4) + Check.PATHS);
            x.country(0);
            Check.fill(x, 0, 0, 1, 2, 4, 5, 6);
            x.trail(0);
        }
        for (int n = 0; n < CALLS; n++) {
            Method call = calls.get(DICE.nextInt(calls.size()));
            boolean takesAway = call.getName().equals("country") || call.getName().equals("tear");
            if (!takesAway || DICE.nextInt(10) == 0) {
                useCall(x, call);
            }
        }
    }

    private static int argument() {
        return DICE.nextInt(6) == 0 ? EDGES[DICE.nextInt(EDGES.length)] : DICE.nextInt(8) - (DICE.nextInt(12) == 0 ? 1 : 0);
    }

    private static void useCall(PaperTrail x, Method call) throws Exception {
        Object[] arguments = new Object[call.getParameterCount()];
        StringBuilder told = new StringBuilder(call.getName());
        for (int k = 0; k < arguments.length; k++) {
            arguments[k] = argument();
            told.append(' ').append(arguments[k]);
        }
        long[] before = stateOf(x);
        int found = x.findings(1) + x.findings(2) + x.findings(3) + x.findings(4) + x.findings(5);
        long answer = ((Number) call.invoke(x, arguments)).longValue();
        boolean refused = answer == -1 || answer == -2 || answer == -3 || answer == -4 || answer == -6 || answer == -9;
        boolean tells = List.of("asked", "upper", "lower", "digest").contains(call.getName());
        if (tells) {
            return;
        }
        int more = x.findings(1) + x.findings(2) + x.findings(3) + x.findings(4) + x.findings(5) - found;
        Check.due(told + ": FINDINGS more", more, answer == -3 ? 1 : 0);
        if (refused) {
            long[] after = stateOf(x);
            for (int k = 0; k < before.length; k++) {
                Check.due(told + " refused: state " + k, after[k], before[k]);
            }
        }
    }

    private static long[] stateOf(PaperTrail x) {
        return new long[] {x.digest(), x.asked(), x.upper(), x.lower()};
    }
}
