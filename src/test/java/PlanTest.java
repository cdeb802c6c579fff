/** Promises 30 to 36: what to lay, across, parted. */
public final class PlanTest {
    private static final int NONE = PaperTrail.NONE;

    public static void main(String[] args) {
        best();
        bestByNumbers();
        fewest();
        fewestRoom();
        trails();
        least();
        route();
        across();
        parted();
        Check.end();
    }

    private static void best() {
        PaperTrail x = Check.land("c40h-011-121-231-021-131");
        Check.state(x, "no TRAIL", () -> x.best());
        Check.fill(x, 0, 0, 1, 2, 3);
        x.trail(0);
        // lesser ones: 1 towards 0, 2 towards 0, 2 towards 1: each 10 minutes
        Check.tells(x, "the first of alike ones", x.best(), 105, 13);
        x.lure(1, 0, 1);
        Check.tells(x, "the next one", x.best(), 205, 15);
        x.wind(1);
        Check.tells(x, "in the WIND greater ones, too", x.best(), 25, 17);
        Check.due("nothing is laid", x.count(5), 1);
        PaperTrail y = Check.land("c30h-011-121", 0, 1, 2);
        y.lure(1, 0, 1);
        Check.none(y, "none can be laid", () -> y.best());
        PaperTrail z = Check.land("c30-011-121", 0, 1, 2);
        Check.none(z, "no HOUNDS", () -> z.best());
        PaperTrail w = Check.land("c30l-011-121-021", 0, 1, 2);
        Check.tells(w, "1 MINUTE is enough for a LEADER", w.best(), 21, 3);
        PaperTrail v = Check.land("c73" + Check.PATHS, 0, 1, 2, 4, 5, 6);
        int[][] ends = {{0, 2}, {1, 0}, {1, 4}, {2, 0}, {2, 1}, {2, 3}, {4, 1}, {4, 2}};
        for (int[] end : ends) {
            v.lure(end[0], end[1], 1);
        }
        Check.refused(v, "FULL", () -> v.best(), PaperTrail.FULL, 0);
    }

    /** THE TRAIL is 0 3 1 4: PLACE 1 is ahead of PLACE 3 by numbers, behind it on THE TRAIL. */
    private static void bestByNumbers() {
        PaperTrail x = Check.land("c50h-031-311-141-321-121-011", 0, 3, 1, 4);
        // lesser than the next one: 0 towards 1, 1 towards 0, 2, 3, 3 towards 0
        Check.tells(x, "0 towards 1", x.best(), 15, 13);
        x.lure(0, 1, 1);
        Check.tells(x, "1 towards 0 ahead of 3 towards 0", x.best(), 105, 15);
    }

    private static void fewest() {
        PaperTrail x = Check.land("c40h-011-121-231-021-131");
        Check.bad(x, "BAD ahead of STATE", () -> x.fewest(6));
        Check.state(x, "no TRAIL", () -> x.fewest(0));
        Check.fill(x, 0, 0, 1, 2, 3);
        x.trail(0);
        Check.bad(x, "fewest(-1)", () -> x.fewest(-1));
        Check.none(x, "CAUGHT at 1 already", () -> x.fewest(2));
        x.head(1);
        Check.fill(x, 2, 7, 7);
        Check.due("none needed", x.fewest(2), 0);
        Check.holds(x, "none needed", 2);
        // a QUICK one with a HEAD of 4: hares 0 9 18 27, it 4 9 14 19
        PaperTrail y = Check.land("c45q-019-129-239-021-131", 0, 1, 2, 3);
        Check.due("hound at 1", y.comes(0, 1), 10);
        Check.due("one at 1", y.fewest(3), 1);
        Check.holds(y, "one at 1", 3, 10);
        Check.due("nothing is laid", y.count(5), 0);
        y.head(4);
        Check.none(y, "CAUGHT at 1, nothing lesser at the START", () -> y.fewest(3));
        y.wind(1);
        Check.due("in the WIND, one at the START lasts", y.fewest(3), 1);
        Check.holds(y, "at the START", 3, 2);
        // 6 places of 9 minutes: a QUICK one gains 4 at each of 6
        PaperTrail z = Check.land("c75q-019-129-239-349-459-569-139-249-359-469", 0, 1, 2, 3, 4, 5, 6);
        Check.due("two in a long run", z.fewest(4), 2);
        Check.holds(z, "the first such row", 4, 10, 21);
        PaperTrail w = Check.land("c20-011", 0, 1);
        Check.due("no HOUNDS", w.fewest(0), 0);
    }

    private static void fewestRoom() {
        PaperTrail x = Check.land("c73q" + Check.PATHS, 0, 1, 2, 4, 5, 6);
        // hares 0 4 7 14 20 22, it 3 5 7 11 14 15: CAUGHT at 2 but for 1 towards 0
        Check.due("10, then 7 minutes are gained later", x.fewest(1), 1);
        Check.holds(x, "at 1", 1, 10);
        int[][] ends = {{0, 2}, {1, 4}, {4, 1}, {4, 2}, {4, 3}, {5, 3}, {5, 4}};
        for (int[] end : ends) {
            x.lure(end[0], end[1], 1);
        }
        Check.due("7 are there, one more", x.fewest(1), 1);
        Check.due("8 are there", x.lure(2, 0, 1), 8);
        Check.none(x, "no room", () -> x.fewest(1));
        PaperTrail y = Check.land("c73h" + Check.PATHS, 0, 1, 2, 4, 5, 6);
        for (int[] end : ends) {
            y.lure(end[0], end[1], 1);
        }
        y.lure(2, 0, 1);
        Check.due("no room, but none needed", y.fewest(1), 0);
    }

    private static void trails() {
        PaperTrail x = Check.land("c40-011-121-231-021-131");
        // 0123, 013, 023, 0213
        Check.due("trails", x.trails(), 4);
        Check.due("one PATH", Check.land("c20-011").trails(), 1);
        Check.due("no way", Check.land("c30-011").trails(), 0);
        Check.due("behind the INN it ends", Check.land("c40-031-311-121").trails(), 1);
        Check.state(new PaperTrail(), "no PLACES", () -> new PaperTrail().trails());
    }

    private static void least() {
        PaperTrail x = new PaperTrail();
        Check.bad(x, "BAD ahead of STATE", () -> x.least(6));
        Check.state(x, "no PLACES", () -> x.least(0));
        PaperTrail y = Check.land("c40-012-122-232-024-134");
        Check.due("6 minutes thrice", y.least(2), 6);
        Check.holds(y, "the first by PLACES", 2, 0, 1, 2, 3);
        PaperTrail z = Check.land("c73" + Check.PATHS);
        Check.due("least", z.least(0), 20);
        Check.holds(z, "0 1 4 5 6", 0, 0, 1, 4, 5, 6);
        Check.due("THE TRAIL is not laid", z.count(4), 0);
        PaperTrail w = Check.land("c30-011");
        Check.fill(w, 1, 5, 5);
        Check.none(w, "no way", () -> w.least(1));
        Check.bad(w, "least(-1)", () -> w.least(-1));
    }

    private static void route() {
        PaperTrail x = new PaperTrail();
        Check.bad(x, "BAD ahead of STATE", () -> x.route(6));
        Check.state(x, "no PLACES", () -> x.route(0));
        PaperTrail y = Check.land("c43h-011-121-231-021-131");
        Check.tells(y, "all alike: 3 ahead", y.route(1), 3, 3);
        Check.holds(y, "the first by PLACES", 1, 0, 1, 2, 3);
        y.wind(1 << 2);
        Check.tells(y, "by 2: 2 more", y.route(1), 3, 5);
        y.wind(1 << 3);
        Check.tells(y, "WIND at the INN is none", y.route(1), 3, 3);
        // a QUICK one gains by minutes: 0 1 3 takes 1 and 1, the rest 9
        PaperTrail z = Check.land("c40q-011-121-239-029-131");
        Check.tells(z, "0 1 3", z.route(1), 2, 0);
        Check.holds(z, "0 1 3", 1, 0, 1, 3);
        z.wind(1 << 2);
        // 0 1 2 3: 1 + 1 + 2 + 5 less 11, 0 2 3: 5 + 2 + 5 less 18
        Check.tells(z, "not by the WIND", z.route(1), 2, 0);
        Check.fill(z, 0, 0, 1, 2, 3);
        z.trail(0);
        z.lure(1, 0, 5);
        Check.tells(z, "FALSE ends don't count", z.route(1), 2, 0);
        Check.due("they stay", z.count(5), 1);
        z.best();
        z.fewest(3);
        Check.tells(z, "nor those that were tried", z.route(1), 2, 0);
        PaperTrail w = Check.land("c30h-011");
        Check.none(w, "no way", () -> w.route(1));
        PaperTrail v = Check.land("c20-011");
        Check.none(v, "no HOUNDS", () -> v.route(1));
    }

    private static void across() {
        PaperTrail x = Check.land("c71hqst" + Check.PATHS);
        Check.bad(x, "BAD ahead of STATE", () -> x.across(0, 2, 2));
        Check.state(x, "no TRAIL", () -> x.across(0, 0, 9));
        Check.fill(x, 0, 0, 1, 2, 4, 5, 6);
        x.trail(0);
        Check.tells(x, "1 to 4: 8 against 10", x.across(0, 1, 3), 1, 2);
        Check.tells(x, "QUICK: 4 against 2 + 4", x.across(1, 1, 3), 1, 2);
        Check.tells(x, "0 to 2: 9 against 7", x.across(0, 0, 2), 1, -2);
        Check.tells(x, "SLOW: 18 against 14", x.across(2, 0, 2), 1, -4);
        Check.tells(x, "TIRED: 19 against 16", x.across(3, 0, 2), 1, -3);
        Check.tells(x, "THE TRAIL itself", x.across(0, 2, 3), 1, 0);
        x.lure(2, 0, 3);
        Check.tells(x, "without the CHECK", x.across(0, 2, 3), 1, 6);
        Check.tells(x, "a CHECK between", x.across(0, 1, 3), 1, 8);
        Check.none(x, "no PATH", () -> x.across(0, 0, 5));
        Check.bad(x, "no HOUND", () -> x.across(4, 0, 1));
        Check.bad(x, "HOUND -1", () -> x.across(-1, 0, 1));
        Check.bad(x, "k below 0", () -> x.across(0, -1, 1));
        Check.bad(x, "k not below j", () -> x.across(0, 3, 3));
        Check.bad(x, "k above j", () -> x.across(0, 9, 8));
        Check.found(x, "j beyond", () -> x.across(0, 0, 6), Check.BEYOND);
        Check.found(x, "both beyond", () -> x.across(0, 7, 8), Check.BEYOND);
    }

    private static void parted() {
        PaperTrail x = Check.land("c73" + Check.PATHS);
        Check.bad(x, "BAD ahead of STATE", () -> x.parted(0, 0));
        Check.bad(x, "k below 0", () -> x.parted(-1, 1));
        Check.state(x, "no TRAIL", () -> x.parted(9, 1));
        Check.fill(x, 0, 0, 1, 2, 4, 5, 6);
        x.trail(0);
        Check.due("no FALSE ends", x.parted(2, 1), 0);
        x.lure(2, 3, 4);
        x.lure(2, 0, 2);
        x.lure(2, 1, 1);
        x.lure(0, 2, 5);
        int[] minutes = {14, 4, 2, 0, 0, 0, 0, 0, 0};
        for (int n = 1; n <= 9; n++) {
            Check.due("parted(2, " + n + ")", x.parted(2, n), minutes[n - 1]);
        }
        Check.due("greater ones come behind", x.parted(0, 1), 0);
        x.wind(127);
        for (int n = 1; n <= 9; n++) {
            Check.due("in the WIND, " + n, x.parted(2, n), minutes[n - 1] + 2);
        }
        Check.due("WIND alone", x.parted(3, 1), 2);
        Check.due("the INN", x.parted(5, 1), 0);
        Check.bad(x, "parted(0, 0)", () -> x.parted(0, 0));
        Check.bad(x, "parted(0, 10)", () -> x.parted(0, 10));
        Check.bad(x, "parted(9, 10)", () -> x.parted(9, 10));
        Check.found(x, "parted(6, 1)", () -> x.parted(6, 1), Check.BEYOND);
    }
}
