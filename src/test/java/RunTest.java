/** Promises 24 to 29: hares, HOUNDS, packs, what is CAUGHT, CALLS. */
public final class RunTest {
    private static final int NONE = PaperTrail.NONE;

    public static void main(String[] args) {
        refusals();
        hares();
        comes();
        calledInTime();
        calledAlike();
        wind();
        pack();
        caught();
        ahead();
        call();
        Check.end();
    }

    private static void refusals() {
        PaperTrail x = Check.land("c73hq" + Check.PATHS);
        Check.bad(x, "hares(-1)", () -> x.hares(-1));
        Check.state(x, "hares(9)", () -> x.hares(9));
        Check.bad(x, "comes(2, 0)", () -> x.comes(2, 0));
        Check.bad(x, "comes(-1, 0)", () -> x.comes(-1, 0));
        Check.bad(x, "comes(0, -1)", () -> x.comes(0, -1));
        Check.state(x, "comes(0, 9)", () -> x.comes(0, 9));
        Check.bad(x, "pack(0, 6)", () -> x.pack(0, 6));
        Check.bad(x, "pack(-1, 0)", () -> x.pack(-1, 0));
        Check.state(x, "pack(9, 0)", () -> x.pack(9, 0));
        Check.state(x, "caught()", () -> x.caught());
        Check.state(x, "ahead()", () -> x.ahead());
        Check.bad(x, "call(-1)", () -> x.call(-1));
        Check.state(x, "call(9)", () -> x.call(9));
        Check.fill(x, 0, 0, 1, 2, 4, 5, 6);
        x.trail(0);
        Check.bad(x, "hares(-1) on a TRAIL", () -> x.hares(-1));
        Check.found(x, "hares(6)", () -> x.hares(6), Check.BEYOND);
        Check.found(x, "comes(0, 6)", () -> x.comes(0, 6), Check.BEYOND);
        Check.bad(x, "comes(2, 6)", () -> x.comes(2, 6));
        Check.found(x, "pack(6, 0)", () -> x.pack(6, 0), Check.BEYOND);
        Check.bad(x, "pack(6, 6)", () -> x.pack(6, 6));
        Check.found(x, "call(6)", () -> x.call(6), Check.BEYOND);
        Check.found(x, "call(MAX)", () -> x.call(Integer.MAX_VALUE), Check.BEYOND);
        PaperTrail y = Check.land("c20-011", 0, 1);
        Check.state(y, "ahead() without HOUNDS", () -> y.ahead());
    }

    private static void hares() {
        PaperTrail x = Check.land("c79" + Check.PATHS, 0, 1, 2, 4, 5, 6);
        int[] minutes = {0, 4, 7, 14, 20, 22};
        for (int k = 0; k < minutes.length; k++) {
            Check.due("hares(" + k + ")", x.hares(k), minutes[k]);
        }
    }

    private static void comesAll(PaperTrail x, int i, int[] comes, int[] leaves) {
        for (int k = 0; k < comes.length; k++) {
            Check.tells(x, "comes(" + i + ", " + k + ")", x.comes(i, k), comes[k], leaves[k]);
        }
    }

    /** No CALL is in time for the SLOW one at 2, one is at 1. */
    private static void comes() {
        PaperTrail x = Check.land("c73hqsa" + Check.PATHS, 0, 1, 2, 4, 5, 6);
        x.lure(1, 4, 3);
        x.lure(2, 0, 2);
        x.lure(2, 3, 4);
        x.lure(0, 2, 5);
        comesAll(x, 0, new int[] {3, 7, 10, 29, 35, 37}, new int[] {3, 7, 22, 29, 35, NONE});
        comesAll(x, 1, new int[] {3, 5, 7, 23, 26, 27}, new int[] {3, 5, 19, 23, 26, NONE});
        comesAll(x, 2, new int[] {3, 11, 17, 43, 55, 59}, new int[] {3, 11, 29, 43, 55, NONE});
        comesAll(x, 3, new int[] {3, 17, 26, 33, 39, 41}, new int[] {13, 23, 26, 33, 39, NONE});
    }

    /** The SLOW one comes in the minute of the CALL, or one minute ahead of it. */
    private static void calledInTime() {
        // at 1 in minutes 1 and 2 (h, s); the FALSE end there takes 2 minutes: left in 3
        PaperTrail x = Check.land("c40hs-011-121-231-131", 0, 1, 2, 3);
        x.lure(1, 0, 1);
        comesAll(x, 0, new int[] {0, 1, 4, 5}, new int[] {0, 3, 4, NONE});
        comesAll(x, 1, new int[] {0, 2, 6, 8}, new int[] {0, 4, 6, NONE});
        // by a PATH of 2 minutes they are there in 2 and 4, left in 4: called just then
        PaperTrail y = Check.land("c40hs-012-121-231-131", 0, 1, 2, 3);
        y.lure(1, 0, 1);
        comesAll(y, 0, new int[] {0, 2, 5, 6}, new int[] {0, 4, 5, NONE});
        comesAll(y, 1, new int[] {0, 4, 6, 8}, new int[] {4 - 4, 4, 6, NONE});
        Check.due("right by a CALL", y.mark(1, 2), 1);
    }

    /** Of those who come in the same minute a lesser number CALLS ahead. */
    private static void calledAlike() {
        PaperTrail x = Check.land("c30sh-011-121-021", 0, 1, 2);
        x.lure(0, 2, 5);
        Check.due("nobody called yet", x.mark(0, 2), 0);
        PaperTrail y = Check.land("c30hs-011-121-021", 0, 1, 2);
        y.lure(0, 2, 5);
        Check.due("the first one called", y.mark(1, 2), 1);
        PaperTrail z = Check.land("c30ss-011-121-021", 0, 1, 2);
        z.lure(0, 2, 5);
        Check.due("a SLOW one calls, too", z.mark(1, 2), 1);
        Check.due("but isn't called itself", z.mark(0, 2), 0);
    }

    private static void wind() {
        PaperTrail x = Check.land("c50hals-012-122-232-342-022-242-132", 0, 1, 2, 3, 4);
        x.lure(2, 0, 1);
        x.lure(2, 4, 3);
        x.wind(1 << 2);
        // all at 2 by minutes: the LEADER 1 + 1 leaves 3, the others lose 2 + 6 + 2, the SLOW one is called
        Check.tells(x, "HOUND", x.comes(0, 2), 4, 14);
        Check.tells(x, "CASTER", x.comes(1, 2), 4, 14);
        Check.tells(x, "LEADER", x.comes(2, 2), 2, 3);
        Check.tells(x, "SLOW one", x.comes(3, 2), 8, 8);
        x.wind(0);
        Check.tells(x, "HOUND goes the lesser one", x.comes(0, 2), 4, 6);
        Check.tells(x, "CASTER goes the greater one", x.comes(1, 2), 4, 10);
        Check.due("WIND at the INN", x.wind(1 << 4), 0);
        Check.tells(x, "is no CHECK", x.comes(0, 4), 10, NONE);
    }

    private static void pack() {
        PaperTrail x = Check.land("c30sthq-013-123-021", 0, 1, 2);
        Check.due("pack(0)", x.pack(0, 5), 4);
        Check.holds(x, "all in one minute", 5, 0, 1, 2, 3);
        Check.fill(x, 1, 9, 9, 9, 9, 9, 9, 9);
        Check.due("pack(1)", x.pack(1, 1), 4);
        Check.holds(x, "by minutes 6 7 3 2", 1, 3, 2, 0, 1);
        Check.due("pack(2)", x.pack(2, 1), 4);
        Check.holds(x, "at the INN", 1, 3, 2, 0, 1);
        PaperTrail y = Check.land("c30qlhh-013-123-021", 0, 1, 2);
        y.pack(2, 1);
        Check.holds(y, "alike ones by numbers", 1, 0, 1, 2, 3);
        PaperTrail z = Check.land("c30-013-123-021", 0, 1, 2);
        Check.due("no HOUNDS", z.pack(1, 2), 0);
        Check.holds(z, "no HOUNDS", 2);
    }

    private static void caught() {
        PaperTrail x = Check.land("c73hqsa" + Check.PATHS, 0, 1, 2, 4, 5, 6);
        // hares 0 4 7 14 20 22; the QUICK one 3 5 7 11 14 15
        Check.tells(x, "caught at 2", x.caught(), 2, 1);
        x.head(4);
        Check.tells(x, "caught at 4 in minute 12", x.caught(), 3, 1);
        x.head(0);
        Check.tells(x, "the QUICK one comes first", x.caught(), 1, 1);
        x.head(9);
        Check.tells(x, "at 5 in minute 20", x.caught(), 4, 1);
        x.wind(1);
        Check.tells(x, "casting about: at the INN in minute 23", x.hound(1, 1), 1, 23);
        Check.none(x, "never", () -> x.caught());
        PaperTrail y = Check.land("c20hh-019", 0, 1);
        Check.tells(y, "alike ones: the least", y.caught(), 1, 0);
        y.head(1);
        Check.none(y, "one minute behind", () -> y.caught());
        PaperTrail z = Check.land("c20-019", 0, 1);
        Check.none(z, "no HOUNDS", () -> z.caught());
    }

    private static void ahead() {
        PaperTrail x = Check.land("c73hqsa" + Check.PATHS, 0, 1, 2, 4, 5, 6);
        Check.tells(x, "15 less 22", x.ahead(), 1, -7);
        x.head(9);
        Check.tells(x, "21 less 22", x.ahead(), 1, -1);
        x.wind(31);
        Check.tells(x, "8 minutes more", x.ahead(), 1, 7);
        PaperTrail y = Check.land("c24h-019", 0, 1);
        Check.tells(y, "by the HEAD", y.ahead(), 1, 4);
    }

    private static void call() {
        PaperTrail x = Check.land("c73hqsa" + Check.PATHS, 0, 1, 2, 4, 5, 6);
        for (int k = 0; k < 6; k++) {
            Check.due("no CHECK at " + k, x.call(k), 0);
        }
        x.lure(0, 2, 5);
        Check.due("all but the CASTER", x.call(0), 7);
        x.lure(1, 0, 5);
        // left at 1: h 7 + 10, q 5 + 10, s (11, no CALL yet) 21, the CASTER 13 + 4
        Check.due("the QUICK one", x.call(1), 2);
        x.off(0);
        x.lure(1, 0, 5);
        // the CASTER comes in 7, leaves in 7
        Check.due("the CASTER", x.call(1), 8);
        x.wind(127);
        Check.due("not at the INN", x.call(5), 0);
        PaperTrail y = Check.land("c20-011", 0, 1);
        y.wind(1);
        Check.due("no HOUNDS", y.call(0), 0);
    }
}
