import java.util.function.IntSupplier;

/** What all tests use: due answers, refusals that change nothing, countries and rows by hand. */
final class Check {
    static final int NOTHING = 1, BEYOND = 2, UNLIKE = 3, NOUGHT = 4, SIZE = 5;

    /** 0-1 4, 1-2 3, 2-3 5, 3-4 5, 4-5 6, 5-6 2, 0-2 9, 2-4 7, 1-4 8, 3-5 7. */
    static final String PATHS = "-014-123-235-345-456-562-029-247-148-357";
    private static int wrong = 0, made = 0;

    private Check() { }

    static int wrong() {
        return wrong;
    }

    static int made() {
        return made;
    }

    static void due(String what, long got, long want) {
        made++;
        if (got != want) {
            wrong++;
            System.out.println(what + " answered " + got + ", due is " + want);
        }
    }

    static void end() {
        System.out.println(wrong == 0 ? "as due, " + made + " checks" : wrong + " answers are not as due");
        if (wrong != 0) {
            System.exit(1);
        }
    }

    /** A refusal changes nothing but finding() and findings(): f is the FINDING due, 0 for none. */
    static void refused(PaperTrail x, String what, IntSupplier call, int want, int f) {
        long digest = x.digest(), upper = x.upper(), lower = x.lower();
        int asked = x.asked(), finding = x.finding();
        int[] before = new int[6];
        for (int k = 1; k <= 5; k++) {
            before[k] = x.findings(k);
        }
        due(what, call.getAsInt(), want);
        due(what + ": digest()", x.digest(), digest);
        due(what + ": upper()", x.upper(), upper);
        due(what + ": lower()", x.lower(), lower);
        due(what + ": asked()", x.asked(), asked);
        due(what + ": finding()", x.finding(), f == 0 ? finding : f);
        for (int k = 1; k <= 5; k++) {
            due(what + ": findings(" + k + ")", x.findings(k), before[k] + (k == f ? 1 : 0));
        }
    }

    static void bad(PaperTrail x, String what, IntSupplier call) {
        refused(x, what, call, PaperTrail.BAD, 0);
    }

    static void state(PaperTrail x, String what, IntSupplier call) {
        refused(x, what, call, PaperTrail.STATE, 0);
    }

    static void none(PaperTrail x, String what, IntSupplier call) {
        refused(x, what, call, PaperTrail.NONE, 0);
    }

    static void found(PaperTrail x, String what, IntSupplier call, int f) {
        refused(x, what, call, PaperTrail.FINDING, f);
    }

    /** A call that answers want and tells by asked(). */
    static void tells(PaperTrail x, String what, int got, int want, int asked) {
        due(what, got, want);
        due(what + ": asked()", x.asked(), asked);
    }

    static void fraction(PaperTrail x, String what, int got, long upper, long lower) {
        due(what, got, 1);
        due(what + ": upper()", x.upper(), upper);
        due(what + ": lower()", x.lower(), lower);
    }

    static void write(PaperTrail x, int t, String text) {
        x.text(t, text.length());
        for (int i = 0; i < text.length(); i++) {
            x.put(t, i, text.charAt(i));
        }
    }

    static void fill(PaperTrail x, int r, int... values) {
        x.row(r, values.length);
        for (int i = 0; i < values.length; i++) {
            x.lay(r, i, values[i]);
        }
    }

    /** A ROW has just these ints. */
    static void holds(PaperTrail x, String what, int r, int... values) {
        for (int i = 0; i < values.length; i++) {
            due(what + ": at(" + r + ", " + i + ")", x.at(r, i), 1);
            due(what + ": place " + i, x.asked(), values[i]);
        }
        due(what + ": size", x.at(r, values.length), PaperTrail.FINDING);
    }

    static PaperTrail land(String text) {
        PaperTrail x = new PaperTrail();
        write(x, 0, text);
        due("country " + text, x.country(0), text.trim().charAt(1) - '0');
        return x;
    }

    static PaperTrail land(String text, int... trail) {
        PaperTrail x = land(text);
        fill(x, 0, trail);
        due("trail", x.trail(0), trail.length - 1);
        return x;
    }

    static long fold(long... values) {
        long h = 17;
        for (long v : values) {
            h = 31 * h + v;
        }
        return h;
    }
}
