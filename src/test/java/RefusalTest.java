import java.lang.reflect.Method;
import java.lang.reflect.Modifier;
import java.util.ArrayList;
import java.util.Comparator;
import java.util.List;
import java.util.Random;

/**
 * Any calls with any arguments: none throws, what is refused changes nothing but finding() and findings(). At the end
 * a twin that is asked all but what was refused answers the same, and is the same.
 */
public final class RefusalTest {
    private static final int OBJECTS = 2000, CALLS = 512;
    private static final Random DICE = new Random(48271);
    private static final int[] EDGES = {
        Integer.MIN_VALUE, Integer.MIN_VALUE + 1, -1000, -10, -9, -2, -1, 7, 8, 9, 10, 31, 32, 33, 40, 41, 63, 64,
        80, 81, 99, 100, 127, 128, 999, 1000, 1 << 30, Integer.MAX_VALUE - 1, Integer.MAX_VALUE};

    public static void main(String[] args) throws Exception {
        List<Method> calls = new ArrayList<>();
        for (Method m : PaperTrail.class.getDeclaredMethods()) {
            if (Modifier.isPublic(m.getModifiers())) {
                calls.add(m);
            }
        }
        calls.sort(Comparator.comparing(Method::getName));
        for (int n = 0; n < OBJECTS; n++) {
            useOne(calls);
        }
        Check.end();
    }

    /** A call that was not refused, and what it answered. */
    private record Done(Method call, Object[] arguments, long answer) { }

    /** PATHS, of the least and of the largest COUNTRIES, and a TRAIL there. */
    private record Place(String paths, int... trail) { }

    private static final Place[] PLACES = {
        new Place(Check.PATHS, 0, 1, 2, 4, 5, 6), new Place(Check.PATHS, 0, 1, 2, 3, 4, 5, 6),
        new Place("-011-021-031-041-051-061-121-131-141-151-161-239", 0, 2, 1, 6), new Place("-019", 0, 1),
        new Place("-012-124-021", 0, 1, 2), new Place("-024-213-132-011-031", 0, 2, 1, 3)};

    private static PaperTrail begin(String text, int[] trail) {
        PaperTrail x = new PaperTrail();
        if (!text.isEmpty()) {
            Check.write(x, 0, text);
            Check.due("country of " + text, x.country(0), 1 + trail[trail.length - 1]);
            Check.fill(x, 0, trail);
            Check.due("trail of " + text, x.trail(0), trail.length - 1);
        }
        return x;
    }

    private static void useOne(List<Method> calls) throws Exception {
        Place place = PLACES[DICE.nextInt(PLACES.length)];
        String hounds = "hqsalt".substring(DICE.nextInt(3)).substring(0, DICE.nextInt(5) == 0 ? 0 : 1 + DICE.nextInt(4));
        int many = 1 + place.trail[place.trail.length - 1];
        String text = DICE.nextInt(8) == 0 ? "" : "c" + many + DICE.nextInt(10) + hounds + place.paths;
        PaperTrail x = begin(text, place.trail);
        List<Done> done = new ArrayList<>();
        for (int n = 0; n < CALLS; n++) {
            Method call = calls.get(DICE.nextInt(calls.size()));
            boolean takesAway = call.getName().equals("country") || call.getName().equals("tear");
            if (!takesAway || DICE.nextInt(10) == 0) {
                useCall(x, call, done);
            }
        }
        compareTwin(x, begin(text, place.trail), done);
    }

    private static void compareTwin(PaperTrail x, PaperTrail twin, List<Done> done) throws Exception {
        for (Done one : done) {
            long answer = ((Number) one.call.invoke(twin, one.arguments)).longValue();
            Check.due("twin: " + one.call.getName() + java.util.Arrays.toString(one.arguments), answer, one.answer);
        }
        long[] want = stateOf(x), got = stateOf(twin);
        for (int k = 0; k < want.length; k++) {
            Check.due("twin: state " + k, got[k], want[k]);
        }
        for (int k = 0; k < 3; k++) {
            Check.due("twin: on(" + k + ")", twin.on(k), x.on(k));
            Check.due("twin: on(" + k + "), digest()", twin.digest(), x.digest());
        }
    }

    private static int argument() {
        return DICE.nextInt(6) == 0 ? EDGES[DICE.nextInt(EDGES.length)] : DICE.nextInt(8) - (DICE.nextInt(12) == 0 ? 1 : 0);
    }

    private static void useCall(PaperTrail x, Method call, List<Done> done) throws Exception {
        Object[] arguments = new Object[call.getParameterCount()];
        StringBuilder told = new StringBuilder(call.getName());
        for (int k = 0; k < arguments.length; k++) {
            arguments[k] = argument();
            told.append(' ').append(arguments[k]);
        }
        long[] before = stateOf(x);
        int found = x.findings(1) + x.findings(2) + x.findings(3) + x.findings(4) + x.findings(5);
        long answer = ((Number) call.invoke(x, arguments)).longValue();
        boolean refused = answer == -1 || answer == -2 || answer == -3 || answer == -4 || answer == -6 || answer == -9;
        boolean tells = List.of("asked", "upper", "lower", "digest").contains(call.getName());
        if ((tells || !refused) && !call.getName().startsWith("finding")) {
            done.add(new Done(call, arguments, answer));
        }
        if (tells) {
            return;
        }
        int more = x.findings(1) + x.findings(2) + x.findings(3) + x.findings(4) + x.findings(5) - found;
        Check.due(told + ": FINDINGS more", more, answer == -3 ? 1 : 0);
        if (refused) {
            long[] after = stateOf(x);
            for (int k = 0; k < before.length; k++) {
                Check.due(told + " refused: state " + k, after[k], before[k]);
            }
        }
    }

    private static long[] stateOf(PaperTrail x) {
        return new long[] {x.digest(), x.asked(), x.upper(), x.lower()};
    }
}
