/** Promises 37 to 41: chances, means, runs by LOTS, which KINDS fit, which FALSE ends are gone. */
public final class RandomTest {
    private static final int NONE = PaperTrail.NONE;

    public static void main(String[] args) {
        refusals();
        chance();
        mid();
        run();
        kinds();
        gone();
        Check.end();
    }

    private static void refusals() {
        PaperTrail x = Check.land("c73hl" + Check.PATHS);
        Check.bad(x, "chance(2, 0)", () -> x.chance(2, 0));
        Check.bad(x, "chance(-1, 0)", () -> x.chance(-1, 0));
        Check.bad(x, "chance(0, -1)", () -> x.chance(0, -1));
        Check.bad(x, "chance(0, 1000)", () -> x.chance(0, 1000));
        Check.state(x, "chance(0, 999)", () -> x.chance(0, 999));
        Check.bad(x, "mid(2)", () -> x.mid(2));
        Check.bad(x, "mid(-1)", () -> x.mid(-1));
        Check.state(x, "mid(0)", () -> x.mid(0));
        Check.bad(x, "run(0)", () -> x.run(0));
        Check.bad(x, "run(-1)", () -> x.run(-1));
        Check.bad(x, "run(MAX)", () -> x.run(2147483647));
        Check.state(x, "run(MAX - 1)", () -> x.run(2147483646));
        Check.bad(x, "kinds(6)", () -> x.kinds(6));
        Check.bad(x, "kinds(-1)", () -> x.kinds(-1));
        Check.state(x, "kinds(5)", () -> x.kinds(5));
        Check.bad(x, "gone(2)", () -> x.gone(2));
        Check.bad(x, "gone(-1)", () -> x.gone(-1));
        Check.state(x, "gone(1)", () -> x.gone(1));
        PaperTrail y = Check.land("c20-011", 0, 1);
        Check.none(y, "run without HOUNDS", () -> y.run(1));
        Check.bad(y, "BAD ahead of NONE", () -> y.run(0));
    }

    private static void chance() {
        // 25 minutes at least; at 2 two of 4 and 8 minutes, at 0 one of 10
        PaperTrail x = Check.land("c73hlst" + Check.PATHS, 0, 1, 2, 4, 5, 6);
        Check.fraction(x, "too soon", x.chance(0, 24), 0, 1);
        Check.fraction(x, "no CHECK", x.chance(0, 25), 1, 1);
        x.lure(2, 0, 2);
        x.lure(2, 3, 4);
        Check.fraction(x, "none ahead", x.chance(0, 28), 1, 3);
        Check.fraction(x, "or the 4", x.chance(0, 29), 1, 2);
        Check.fraction(x, "or the 8", x.chance(0, 33), 2, 3);
        Check.fraction(x, "not both", x.chance(0, 36), 2, 3);
        Check.fraction(x, "both", x.chance(0, 37), 1, 1);
        x.lure(0, 2, 5);
        Check.fraction(x, "0 4 8 at 2, 10 more at 0", x.chance(0, 36), 1, 2);
        Check.fraction(x, "0 by 1", x.chance(0, 0), 0, 1);
        Check.fraction(x, "a LEADER tries like others", x.chance(1, 15), 1, 6);
        Check.fraction(x, "a SLOW one's pace", x.chance(2, 47), 1, 6);
        Check.fraction(x, "ahead of it", x.chance(2, 46), 0, 1);
        Check.fraction(x, "a TIRED one's pace", x.chance(3, 52), 1, 6);
        x.wind(1 << 1 | 1 << 6);
        Check.fraction(x, "2 minutes in the WIND", x.chance(0, 26), 0, 1);
        Check.fraction(x, "2 minutes in the WIND", x.chance(0, 27), 1, 6);
        Check.fraction(x, "at last", x.chance(0, 999), 1, 1);
    }

    private static void mid() {
        PaperTrail x = Check.land("c73hl" + Check.PATHS, 0, 1, 2, 4, 5, 6);
        Check.fraction(x, "no CHECK", x.mid(0), 25, 1);
        x.lure(2, 0, 2);
        x.lure(2, 3, 4);
        Check.fraction(x, "a third of 0, 12, a sixth of 4, 8", x.mid(0), 31, 1);
        Check.fraction(x, "a LEADER", x.mid(1), 21, 1);
        x.wind(127);
        Check.fraction(x, "5 CHECKS in the WIND", x.mid(0), 41, 1);
    }

    /** LOTS of 1: 48271 (odd), 182605794 (even), 1291394886 (even), 1914720637 (odd), 2078669041 (odd). */
    private static void run() {
        PaperTrail x = Check.land("c73hq" + Check.PATHS, 0, 1, 2, 4, 5, 6);
        Check.tells(x, "no CHECK", x.run(1), 1, 15);
        x.lure(2, 3, 4);
        x.lure(2, 0, 2);
        x.lure(0, 2, 5);
        // the HOUND: 0 towards 2 (odd: 10), 2 towards 0, 3 (even); the QUICK one: odd 10, odd 4, 2 towards 3
        long lot = 1;
        int[] length = {5, 2, 4};
        int[] minutes = {25, 15};
        for (int i = 0; i < 2; i++) {
            for (int n = 0; n < 3; n++) {
                lot = lot * 48271 % 2147483647L;
                minutes[i] += lot % 2 == 1 ? 2 * length[n] : 0;
            }
        }
        Check.due("by hand", minutes[0], 35);
        Check.tells(x, "run(1)", x.run(1), minutes[0] <= minutes[1] ? 0 : 1, Math.min(minutes[0], minutes[1]));
        int[] again = {x.run(1), x.asked()};
        Check.tells(x, "the same again", x.run(1), again[0], again[1]);
        x.wind(1);
        Check.tells(x, "2 more in the WIND", x.run(1), again[0], again[1] + 2);
        PaperTrail y = Check.land("c20hh-015", 0, 1);
        Check.tells(y, "the least of alike ones", y.run(2147483646), 0, 5);
        // by places of THE TRAIL, not by PLACES: 0 2 1 3 with ends at 2 (next 1) and at 1 (next 3)
        PaperTrail z = Check.land("c40h-021-211-131-231-011", 0, 2, 1, 3);
        z.lure(1, 0, 1);
        z.lure(2, 3, 5);
        Check.tells(z, "at 2 first: odd, 10 minutes", z.run(1), 0, 13);
    }

    private static void kinds() {
        PaperTrail x = Check.land("c42hs-014-122-231-133-021");
        Check.fill(x, 0, 0, 1, 2, 3);
        x.trail(0);
        Check.found(x, "no ROW", () -> x.kinds(1), Check.NOTHING);
        x.row(1, 3);
        Check.found(x, "too few", () -> x.kinds(1), Check.SIZE);
        x.row(1, 5);
        Check.found(x, "too many", () -> x.kinds(1), Check.SIZE);
        Check.fill(x, 1, 2, -1, NONE, NONE);
        Check.found(x, "below 0", () -> x.kinds(1), Check.UNLIKE);
        Check.fill(x, 1, -10, NONE, NONE, NONE);
        Check.found(x, "below NONE", () -> x.kinds(1), Check.UNLIKE);
        Check.fill(x, 1, -1, NONE, NONE);
        Check.found(x, "SIZE ahead of UNLIKE", () -> x.kinds(1), Check.SIZE);
        Check.fill(x, 1, 2, 6, 8, 9, -1);
        kindsAre(x, 63, NONE, NONE, NONE, NONE);
        kindsAre(x, 0, 0, NONE, NONE, NONE);
        kindsAre(x, 63, 2, NONE, NONE, NONE);
        kindsAre(x, 0, 3, NONE, NONE, NONE);
        kindsAre(x, 1 | 8, 2, 6, 8, 9);
        kindsAre(x, 2 | 16, 2, 4, 5, 6);
        kindsAre(x, 4, 2, 10, 14, 16);
        kindsAre(x, 32, 2, 11, 16, 19);
        kindsAre(x, 0, 2, 6, 8, 10);
        x.lure(1, 0, 1);
        kindsAre(x, 1, NONE, NONE, 10, NONE);
        kindsAre(x, 8, NONE, 6, 8, NONE);
        kindsAre(x, 2, NONE, NONE, 7, NONE);
        kindsAre(x, 16, NONE, NONE, 6, NONE);
        // alone a SLOW one is never called
        kindsAre(x, 4, NONE, 10, 16, NONE);
        kindsAre(x, 32, NONE, 11, 18, NONE);
        x.wind(1);
        kindsAre(x, 63, 2, NONE, NONE, NONE);
        kindsAre(x, 16, NONE, 5, NONE, NONE);
        Check.due("asked() is not told", x.run(5) * 0 + x.kinds(1), 16);
    }

    private static void kindsAre(PaperTrail x, int want, int... row) {
        Check.fill(x, 1, row);
        Check.due("kinds of " + java.util.Arrays.toString(row), x.kinds(1), want);
    }

    private static void gone() {
        PaperTrail x = Check.land("c73hlsa" + Check.PATHS, 0, 1, 2, 4, 5, 6);
        Check.due("none", x.gone(0), 0);
        x.lure(2, 3, 4);
        x.lure(0, 2, 1);
        x.lure(2, 0, 2);
        x.lure(5, 3, 1);
        Check.due("a HOUND: lesser ones", x.gone(0), 1 | 4 | 8);
        Check.due("a LEADER none", x.gone(1), 0);
        Check.due("a SLOW one is called", x.gone(2), 0);
        Check.due("a CASTER: greater ones", x.gone(3), 2);
        x.wind(1);
        Check.due("all in the WIND", x.gone(0), 15);
        Check.due("a SLOW one, not called yet", x.gone(2), 2);
        Check.due("a CASTER in the WIND", x.gone(3), 2);
        x.wind(0);
        x.off(1);
        Check.due("the first one is left", x.gone(0), 1);
        x.off(0);
        x.lure(2, 1, 1);
        x.lure(2, 3, 1);
        x.off(1);
        Check.due("another one is the first", x.gone(0), 1);
        x.off(0);
        Check.due("none is left", x.gone(0), 0);
    }
}
