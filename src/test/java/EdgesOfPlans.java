/** Promises 30 to 36 at their edges: what to lay, across, parted. */
final class EdgesOfPlans {
    private static final int NONE = PaperTrail.NONE;
    private static final int MIN = Integer.MIN_VALUE, MAX = Integer.MAX_VALUE;

    private EdgesOfPlans() { }

    static void all() {
        Edges.says(30, "The FALSE end more (100 times the PLACE, 10 times towards which, and MINUTES", EdgesOfPlans::bestCode);
        Edges.says(30, "the first) by which the first HOUND comes to the INN latest", EdgesOfPlans::bestLatest);
        Edges.says(30, "that minute by asked()", EdgesOfPlans::bestMinute);
        Edges.says(30, "NONE: none can be laid, or there are no HOUNDS", EdgesOfPlans::bestNone);
        Edges.says(30, "STATE", EdgesOfPlans::bestState);
        Edges.says(30, "FULL: there are 8", EdgesOfPlans::bestFull);
        Edges.says(31, "The fewest FALSE ends more (3 at most, each 5 MINUTES long) by which the hares are not CAUGHT",
            EdgesOfPlans::fewestNeeded);
        Edges.says(31, "they (10 times the PLACE, and towards which", EdgesOfPlans::fewestCodes);
        Edges.says(31, "rising, the first such row) come to a ROW (anew): how many", EdgesOfPlans::fewestRow);
        Edges.says(31, "NONE: not by 3", EdgesOfPlans::fewestNone);
        Edges.says(31, "(or there is no room for them)", EdgesOfPlans::fewestRoom);
        Edges.says(31, "BAD", EdgesOfPlans::fewestBad);
        Edges.says(31, "STATE", EdgesOfPlans::fewestState);
        Edges.says(32, "How many TRAILS there can be in all", EdgesOfPlans::trailsInAll);
        Edges.says(32, "STATE: no PLACES", EdgesOfPlans::trailsState);
        Edges.says(33, "The one that takes least MINUTES", EdgesOfPlans::leastMinutes);
        Edges.says(33, "(of alike ones the first, by PLACES)", EdgesOfPlans::leastAlike);
        Edges.says(33, "comes to a ROW (anew)", EdgesOfPlans::leastRow);
        Edges.says(33, "MINUTES", EdgesOfPlans::leastTells);
        Edges.says(33, "NONE: there is none", EdgesOfPlans::leastNone);
        Edges.says(33, "BAD", EdgesOfPlans::leastBad);
        Edges.says(33, "STATE: no PLACES", EdgesOfPlans::leastState);
        Edges.says(34, "The one by which, without FALSE ends", EdgesOfPlans::routeWithoutEnds);
        Edges.says(34, "by the WIND as it is", EdgesOfPlans::routeByWind);
        Edges.says(34, "the hares are furthest ahead of the first HOUND at the INN", EdgesOfPlans::routeFurthest);
        Edges.says(34, "(the first such)", EdgesOfPlans::routeAlike);
        Edges.says(34, "comes to a ROW (anew): how many PATHS", EdgesOfPlans::routeRow);
        Edges.says(34, "by how much they are by asked()", EdgesOfPlans::routeTells);
        Edges.says(34, "NONE: there is none, or no HOUNDS", EdgesOfPlans::routeNone);
        Edges.says(34, "BAD", EdgesOfPlans::routeBad);
        Edges.says(34, "STATE: no PLACES", EdgesOfPlans::routeState);
        Edges.says(35, "A HOUND at place k of THE TRAIL, when it comes there, goes across by a PATH to a later one j",
            EdgesOfPlans::acrossByPath);
        Edges.says(35, "how many minutes sooner it is there, told by asked() (perhaps below 0): 1", EdgesOfPlans::acrossSooner);
        Edges.says(35, "NONE: no PATH", EdgesOfPlans::acrossNone);
        Edges.says(35, "BAD: also k not below j", EdgesOfPlans::acrossBad);
        Edges.says(35, "STATE", EdgesOfPlans::acrossState);
        Edges.says(35, "BEYOND: j", EdgesOfPlans::acrossBeyond);
        Edges.says(35, "(In this order.)", EdgesOfPlans::acrossOrder);
        Edges.says(36, "n HOUNDS (1 .. 9) part at place k", EdgesOfPlans::partedMany);
        Edges.says(36, "each takes one of all FALSE ends there and THE TRAIL, by numbers of PLACES towards which they are",
            EdgesOfPlans::partedByNumbers);
        Edges.says(36, "then, come back, the next one that nobody took", EdgesOfPlans::partedNext);
        Edges.says(36, "in how many minutes the first of them is on THE TRAIL (as if all were of KIND 0", EdgesOfPlans::partedKind);
        Edges.says(36, "in the WIND 2 more)", EdgesOfPlans::partedWind);
        Edges.says(36, "BAD", EdgesOfPlans::partedBad);
        Edges.says(36, "STATE", EdgesOfPlans::partedState);
        Edges.says(36, "BEYOND: no such place", EdgesOfPlans::partedBeyond);
        Edges.says(36, "the INN: 0", EdgesOfPlans::partedInn);
        Edges.says(36, "(In this order.)", EdgesOfPlans::partedOrder);
    }

    private static void bestCode() {
        PaperTrail x = Check.land("c30h-011-121-021", 0, 1, 2);
        Check.tells(x, "1 towards 0, 5 long", x.best(), 105, 12);
        x.lure(1, 0, 1);
        Check.tells(x, "0 towards 2, as good by 1 as by 5", x.best(), 21, 4);
        // the greatest: 5 towards 4
        PaperTrail y = Check.land("c70h-051-561-451", 0, 5, 6);
        Check.tells(y, "5 towards 0 ahead of 5 towards 4", y.best(), 505, 12);
        y.lure(5, 0, 1);
        Check.tells(y, "5 towards 4", y.best(), 545, 14);
        Check.due("nothing is laid", y.count(5), 1);
        PaperTrail z = Check.land("c40h-011-121-231", 0, 1, 2, 3);
        z.lure(1, 0, 1);
        Check.tells(z, "2 towards 1", z.best(), 215, 15);
        // 17 could be laid, more than in any other country; a LEADER is kept up by the last one alone
        PaperTrail w = Check.land("c70l-011-121-231-341-451-561-021-031-041-131-141-241", 0, 1, 2, 3, 4, 5, 6);
        w.wind(31);
        Check.tells(w, "5 towards 4 is the seventeenth", w.best(), 541, 12);
    }

    private static void bestLatest() {
        PaperTrail x = Check.land("c30ha-011-121-021", 0, 1, 2);
        Check.tells(x, "one end keeps one of two: all alike, so the first", x.best(), 21, 2);
        x.lure(0, 2, 3);
        Check.tells(x, "both: until the CASTER's 8 it is worth it", x.best(), 103, 8);
        PaperTrail y = Check.land("c30l-011-121-021", 0, 1, 2);
        Check.tells(y, "a LEADER by any: the first", y.best(), 21, 3);
        PaperTrail z = Check.land("c40h-021-211-131-011-321", 0, 2, 1, 3);
        // 10 more by 0 towards 1, 1 towards 0, 1 towards 2, 2 towards 0: by numbers
        Check.tells(z, "0 towards 1", z.best(), 15, 13);
        z.lure(0, 1, 1);
        Check.tells(z, "1 towards 0 ahead of 2 towards 0, though later on THE TRAIL", z.best(), 105, 15);
        PaperTrail w = Check.land("c30h-011-121-021", 0, 1, 2);
        w.wind(1);
        Check.tells(w, "in the WIND 0 towards 2 ahead of 1 towards 0", w.best(), 25, 14);
    }

    private static void bestMinute() {
        PaperTrail x = Edges.longRun("9t");
        Check.tells(x, "6 times 19, 9, and 10", x.best(), 105, 133);
        x.head(0);
        Check.tells(x, "by another HEAD", x.best(), 105, 124);
        PaperTrail y = Check.land("c30s-011-121", 0, 1, 2);
        Check.tells(y, "4 and 10", y.best(), 105, 14);
    }

    private static void bestNone() {
        PaperTrail x = Check.land("c20h-011", 0, 1);
        Check.none(x, "there is no other PATH", () -> x.best());
        PaperTrail y = Check.land("c30h-011-121", 0, 1, 2);
        Check.tells(y, "just one can be laid", y.best(), 105, 12);
        y.lure(1, 0, 1);
        Check.none(y, "it is laid", () -> y.best());
        PaperTrail z = Check.land("c30-011-121", 0, 1, 2);
        Check.none(z, "no HOUNDS", () -> z.best());
    }

    private static void bestState() {
        PaperTrail x = Check.land("c20h-011");
        Check.state(x, "no TRAIL", () -> x.best());
        PaperTrail y = Check.land("c20-011");
        Check.state(y, "no TRAIL, no HOUNDS", () -> y.best());
        PaperTrail z = new PaperTrail();
        Check.state(z, "no PLACES", () -> z.best());
    }

    private static void bestFull() {
        PaperTrail x = Edges.longRun("0h");
        Edges.layEnds(x, 7, 1);
        // 6 of them cost 2 minutes each; 2 towards 0 costs 10 more
        Check.tells(x, "7: one more can be laid", x.best(), 205, 76);
        Check.due("an eighth", x.lure(0, 2, 1), 8);
        Check.refused(x, "8", () -> x.best(), PaperTrail.FULL, 0);
        PaperTrail y = Edges.longRun("0");
        Edges.layEnds(y, 8, 1);
        Check.refused(y, "8, no HOUNDS: FULL ahead of NONE", () -> y.best(), PaperTrail.FULL, 0);
    }

    /**
     * A LEADER waits 1 minute at each CHECK, however many ends are there: with a HEAD of 9 it gains 4 at 1, 4 more
     * at 2, and at the INN by the last PATH so many that it takes so many CHECKS.
     */
    private static PaperTrail leaderBy(int lastPath) {
        return Check.land("c49l-019-129-23" + lastPath + "-021-131", 0, 1, 2, 3);
    }

    private static void fewestNeeded() {
        int[] gains = {0, 0, 1, 1, 2, 2, 3, 3, 4, 4};
        for (int last = 1; last <= 9; last++) {
            PaperTrail x = leaderBy(last);
            Check.due("by a last PATH of " + last, x.fewest(1), gains[last] > 3 ? NONE : gains[last]);
            Check.due("nothing is laid", x.count(5), 0);
        }
        // each takes 10 minutes: 9 are kept up by one, 10 by two
        PaperTrail y = Check.land("c55q-019-129-239-345", 0, 1, 2, 3, 4);
        Check.due("14 of 5 gained", y.fewest(1), 1);
        PaperTrail z = Check.land("c55q-019-129-239-347", 0, 1, 2, 3, 4);
        Check.due("15 of 5 gained", z.fewest(1), 2);
        y.lure(1, 0, 4);
        Check.tells(y, "4 MINUTES are not enough", y.caught(), 4, 0);
        PaperTrail w = Check.land("c20-011", 0, 1);
        Check.due("no HOUNDS", w.fewest(1), 0);
    }

    private static void fewestCodes() {
        PaperTrail x = leaderBy(7);
        Check.due("three CHECKS", x.fewest(1), 3);
        Check.holds(x, "0 towards 2, 1 towards 0, 2 towards 0", 1, 2, 10, 20);
        PaperTrail y = Check.land("c75q-059-561-451", 0, 5, 6);
        Check.due("not CAUGHT", y.fewest(1), 0);
        y.head(4);
        Check.none(y, "CAUGHT at 5 already", () -> y.fewest(1));
        PaperTrail z = Check.land("c75q-059-569-451", 0, 5, 6);
        Check.due("one at 5", z.fewest(1), 1);
        Check.holds(z, "5 towards 0", 1, 50);
        z.lure(5, 0, 1);
        Check.due("one more at 5", z.fewest(1), 1);
        Check.holds(z, "5 towards 4", 1, 54);
    }

    private static void fewestRow() {
        PaperTrail x = leaderBy(5);
        Check.fill(x, 1, 7, 7, 7);
        Check.due("two CHECKS", x.fewest(1), 2);
        Check.holds(x, "the first such row", 1, 2, 10);
        PaperTrail y = leaderBy(3);
        Check.due("to a ROW that is missing", y.fewest(5), 1);
        Check.holds(y, "the first such row", 5, 2);
        PaperTrail z = leaderBy(1);
        z.row(4, 40);
        Check.due("none", z.fewest(4), 0);
        Check.holds(z, "an empty ROW is there", 4);
        Check.found(z, "an empty ROW", () -> z.mean(4), Check.NOUGHT);
        // by numbers, though 1 is behind 2 on THE TRAIL 0 2 1 3
        PaperTrail w = Check.land("c47l-029-219-135-011", 0, 2, 1, 3);
        w.wind(1);
        w.head(9);
        Check.due("one of several", w.fewest(0), 1);
        Check.holds(w, "1 towards 0 ahead of 2 towards 0", 0, 10);
        Check.due("asked() is not told by it", w.asked(), 10);
        // CAUGHT at PLACE 1 but for an end at PLACE 2, ahead of it; then at the INN but for one at PLACE 1, too
        PaperTrail v = Check.land("c45l-029-213-133", 0, 2, 1, 3);
        Check.tells(v, "CAUGHT at PLACE 1", v.caught(), 2, 0);
        Check.due("both", v.fewest(0), 2);
        Check.holds(v, "rising, whatever THE TRAIL's order is", 0, 12, 20);
    }

    private static void fewestNone() {
        PaperTrail x = leaderBy(9);
        Check.fill(x, 1, 7, 7, 7);
        Check.none(x, "four would be needed", () -> x.fewest(1));
        Check.holds(x, "the ROW stays", 1, 7, 7, 7);
        Check.none(x, "the ROW stays missing", () -> x.fewest(2));
        Check.due("count(7)", x.count(7), 2);
        // 4 CHECKS would do, but not 3
        PaperTrail y = Check.land("c59l-019-129-231-349-021", 0, 1, 2, 3, 4);
        Check.none(y, "not by 3", () -> y.fewest(1));
        y.lure(1, 0, 1);
        Check.due("by 3, and one that is there", y.fewest(1), 3);
        Check.holds(y, "at 0, 2, 3", 1, 2, 20, 32);
        PaperTrail z = Check.land("c20h-011", 0, 1);
        Check.none(z, "none can be laid", () -> z.fewest(1));
    }

    private static void fewestRoom() {
        PaperTrail x = Edges.longRun("5q");
        // it gains 24 of 5; these keep it up by 2 at 3, by 2 and 2 at 5: two of 10 minutes are still due, the first at 1
        for (int[] end : new int[][] {{1, 3}, {3, 5}, {0, 2}, {5, 3}, {3, 1}, {5, 4}}) {
            x.lure(end[0], end[1], 1);
        }
        Check.due("6 are there: room for two", x.count(5), 6);
        Check.due("two are needed", x.fewest(1), 2);
        Check.holds(x, "1 towards 0, 2 towards 0", 1, 10, 20);
        Check.due("a seventh", x.lure(4, 3, 1), 7);
        Check.none(x, "7 are there: room for one", () -> x.fewest(1));
        Check.due("off(6)", x.off(6), 1);
        Check.due("a seventh that helps", x.lure(1, 0, 5), 7);
        Check.due("one is needed", x.fewest(1), 1);
        Check.holds(x, "2 towards 0", 1, 20);
        Check.due("an eighth", x.lure(4, 3, 1), 8);
        Check.none(x, "8 are there: no room", () -> x.fewest(1));
        x.head(9);
        x.off(7);
        x.lure(2, 0, 5);
        Check.due("8 are there", x.count(5), 8);
        Check.due("but none is needed", x.fewest(1), 0);
    }

    private static void fewestBad() {
        PaperTrail x = Edges.rich();
        PaperTrail y = new PaperTrail();
        for (int r : Edges.outside(6)) {
            Check.bad(x, "fewest(" + r + ")", () -> x.fewest(r));
            Check.bad(y, "BAD ahead of STATE, " + r, () -> y.fewest(r));
        }
    }

    private static void fewestState() {
        PaperTrail x = Check.land("c20h-011");
        Check.state(x, "no TRAIL", () -> x.fewest(5));
        PaperTrail y = new PaperTrail();
        Check.state(y, "no PLACES", () -> y.fewest(0));
    }

    private static void trailsInAll() {
        String[] lands = {"c20", "c20-011", "c30-011", "c30-011-121", "c30-011-121-021", "c40-011-021-031-121-131-231",
            "c50-011-021-031-041-121-131-141-231-241-341", "c70-061", "c70-011-121-231-341-451-561", "c40-031-131-231"};
        int[] many = {0, 1, 0, 1, 2, 5, 16, 1, 1, 1};
        for (int n = 0; n < lands.length; n++) {
            Check.due("of " + lands[n], Check.land(lands[n]).trails(), many[n]);
        }
        // 3 ways to each of 2 PLACES in the middle, all 12 PATHS
        PaperTrail x = Check.land("c70h-011-021-031-121-231-141-241-341-451-461-561-151", 0, 1, 4, 6);
        Check.due("by all 12 PATHS", x.trails(), Model.read("c70-011-021-031-121-231-141-241-341-451-461-561-151").trails().size());
        Check.due("THE TRAIL stays", x.count(4), 4);
        Check.due("asked() is not told by it", x.asked(), 0);
    }

    private static void trailsState() {
        PaperTrail x = new PaperTrail();
        Check.state(x, "no PLACES", () -> x.trails());
        Check.due("no HOUNDS, no TRAIL, no PATHS", Check.land("c20").trails(), 0);
    }

    private static void leastMinutes() {
        PaperTrail x = Check.land("c30-018-121-029", 0, 1, 2);
        Check.due("9 by either", x.least(1), 9);
        PaperTrail y = Check.land("c30-019-121-029");
        Check.due("9 against 10", y.least(1), 9);
        Check.holds(y, "straight", 1, 0, 2);
        PaperTrail z = Check.land("c30-017-121-029");
        Check.due("8 against 9", z.least(1), 8);
        Check.holds(z, "by 1", 1, 0, 1, 2);
        PaperTrail w = Check.land("c70h-011-121-231-341-451-561-067", 0, 6);
        w.lure(0, 1, 5);
        w.wind(127);
        Check.due("6 against 7, whatever is laid", w.least(1), 6);
        Check.holds(w, "by all", 1, 0, 1, 2, 3, 4, 5, 6);
        Check.due("THE TRAIL stays", w.count(4), 2);
        Check.due("FALSE ends stay", w.count(5), 1);
        Check.due("WIND stays", w.wind(0), 127);
    }

    private static void leastAlike() {
        PaperTrail x = Check.land("c30-018-121-029");
        x.least(1);
        Check.holds(x, "0 1 2 ahead of 0 2", 1, 0, 1, 2);
        PaperTrail y = Check.land("c40-021-231-131-011");
        y.least(1);
        Check.holds(y, "0 1 3 ahead of 0 2 3", 1, 0, 1, 3);
        PaperTrail z = Check.land("c50-012-121-232-341-144-134");
        Check.due("7, by 1 2 3 (6), by 1 (6), by 1 3 (7)", z.least(1), 6);
        Check.holds(z, "0 1 2 3 4 ahead of 0 1 4", 1, 0, 1, 2, 3, 4);
    }

    private static void leastRow() {
        PaperTrail x = Check.land("c30-011-121");
        for (int r = 0; r < 6; r++) {
            x.least(r);
            Check.holds(x, "ROW " + r, r, 0, 1, 2);
        }
        x.row(3, 40);
        x.least(3);
        Check.holds(x, "a long ROW is short", 3, 0, 1, 2);
        x.row(3, 0);
        x.least(3);
        Check.holds(x, "an empty ROW is longer", 3, 0, 1, 2);
    }

    private static void leastTells() {
        Check.due("the least of all", Check.land("c20-011").least(0), 1);
        Check.due("the most of all", Check.land("c70" + "-019-129-239-349-459-569").least(0), 54);
        PaperTrail x = Edges.rich();
        Check.due("by 1 and 4", x.least(0), 20);
        Check.due("asked() is not told by it", x.asked(), 31337);
    }

    private static void leastNone() {
        PaperTrail x = Check.land("c30-011");
        Check.fill(x, 1, 5, 5);
        Check.none(x, "the INN is far off", () -> x.least(1));
        Check.none(x, "to a ROW that is missing", () -> x.least(2));
        Check.holds(x, "the ROW stays", 1, 5, 5);
        PaperTrail y = Check.land("c20");
        Check.none(y, "no PATHS", () -> y.least(1));
        PaperTrail z = Check.land("c40-121-231");
        Check.none(z, "no PATH from the START", () -> z.least(1));
    }

    private static void leastBad() {
        PaperTrail x = Edges.rich();
        PaperTrail y = new PaperTrail();
        PaperTrail z = Check.land("c20");
        for (int r : Edges.outside(6)) {
            Check.bad(x, "least(" + r + ")", () -> x.least(r));
            Check.bad(y, "BAD ahead of STATE, " + r, () -> y.least(r));
            Check.bad(z, "BAD ahead of NONE, " + r, () -> z.least(r));
        }
    }

    private static void leastState() {
        PaperTrail x = new PaperTrail();
        Check.fill(x, 1, 5, 5);
        Check.state(x, "no PLACES", () -> x.least(1));
        Check.holds(x, "the ROW stays", 1, 5, 5);
    }

    private static void routeWithoutEnds() {
        PaperTrail x = Check.land("c40q-012-122-232-133", 0, 1, 2, 3);
        // by 1 2 3 it gains 3, by 1 3 only 2
        Check.tells(x, "straight", x.route(1), 2, -2);
        Check.holds(x, "0 1 3", 1, 0, 1, 3);
        x.lure(1, 0, 5);
        x.lure(2, 1, 5);
        Check.tells(x, "FALSE ends are no reason", x.route(1), 2, -2);
        Check.due("they stay", x.count(5), 2);
        Check.due("THE TRAIL stays", x.count(4), 4);
        Check.tells(x, "as it is", x.ahead(), 1, 17);
    }

    private static void routeByWind() {
        PaperTrail x = Check.land("c40h-011-121-231-131-021");
        Check.tells(x, "no WIND", x.route(1), 3, 0);
        Check.holds(x, "the first", 1, 0, 1, 2, 3);
        x.wind(1 << 2);
        Check.tells(x, "by 2", x.route(1), 3, 2);
        x.wind(1 << 1);
        Check.tells(x, "by 1", x.route(1), 3, 2);
        x.wind(15);
        Check.tells(x, "by as many as can be", x.route(1), 3, 6);
        x.wind(1 << 3);
        Check.tells(x, "none at the INN", x.route(1), 3, 0);
        Check.due("the WIND stays", x.wind(0), 8);
    }

    private static void routeFurthest() {
        // straight 9: the QUICK one gains 4; by 1 and 1 none
        PaperTrail x = Check.land("c30qs-011-121-029");
        Check.tells(x, "by 1", x.route(1), 2, 0);
        Check.holds(x, "0 1 2", 1, 0, 1, 2);
        PaperTrail y = Check.land("c30s-011-121-029");
        Check.tells(y, "a SLOW one alone loses most by 9", y.route(1), 1, 9);
        Check.holds(y, "0 2", 1, 0, 2);
        PaperTrail z = Check.land("c34t-011-121-021");
        Check.tells(z, "a TIRED one: 2 more by each PATH", z.route(1), 2, 8);
        PaperTrail w = Check.land("c30hs-011-121-029");
        Check.tells(w, "by the first HOUND alone", w.route(1), 2, 0);
    }

    private static void routeAlike() {
        PaperTrail x = Check.land("c40h-021-231-131-011");
        Check.tells(x, "alike", x.route(1), 2, 0);
        Check.holds(x, "0 1 3 ahead of 0 2 3", 1, 0, 1, 3);
        PaperTrail y = Check.land("c39h-029-011-121");
        Check.tells(y, "alike", y.route(1), 2, 9);
        Check.holds(y, "0 1 2 ahead of 0 2", 1, 0, 1, 2);
    }

    private static void routeRow() {
        PaperTrail x = Check.land("c20h-011");
        for (int r = 0; r < 6; r++) {
            Check.due("one PATH", x.route(r), 1);
            Check.holds(x, "ROW " + r, r, 0, 1);
        }
        x.row(3, 40);
        x.route(3);
        Check.holds(x, "a long ROW is short", 3, 0, 1);
        PaperTrail y = Check.land("c70h-011-121-231-341-451-561");
        Check.due("six PATHS", y.route(3), 6);
        Check.holds(y, "all", 3, 0, 1, 2, 3, 4, 5, 6);
        Check.due("THE TRAIL is not laid", y.count(4), 0);
    }

    private static void routeTells() {
        for (int head = 0; head <= 9; head++) {
            PaperTrail x = Check.land("c2" + head + "q-019");
            Check.tells(x, "HEAD " + head, x.route(0), 1, head - 4);
        }
        PaperTrail y = Check.land("c20h-011");
        y.head(7);
        Check.tells(y, "by the HEAD as it is", y.route(0), 1, 7);
    }

    private static void routeNone() {
        PaperTrail x = Check.land("c30h-011");
        Check.fill(x, 1, 5, 5);
        Check.none(x, "there is none", () -> x.route(1));
        Check.holds(x, "the ROW stays", 1, 5, 5);
        PaperTrail y = Check.land("c20-011");
        Check.none(y, "no HOUNDS", () -> y.route(1));
        Check.due("the ROW stays missing", y.count(7), 0);
        PaperTrail z = Check.land("c20");
        Check.none(z, "neither", () -> z.route(1));
    }

    private static void routeBad() {
        PaperTrail x = Edges.rich();
        PaperTrail y = new PaperTrail();
        PaperTrail z = Check.land("c20");
        for (int r : Edges.outside(6)) {
            Check.bad(x, "route(" + r + ")", () -> x.route(r));
            Check.bad(y, "BAD ahead of STATE, " + r, () -> y.route(r));
            Check.bad(z, "BAD ahead of NONE, " + r, () -> z.route(r));
        }
    }

    private static void routeState() {
        PaperTrail x = new PaperTrail();
        Check.fill(x, 1, 5, 5);
        Check.state(x, "no PLACES", () -> x.route(1));
        Check.holds(x, "the ROW stays", 1, 5, 5);
    }

    private static void acrossByPath() {
        // THE TRAIL 0 1 2 3 in 9, straight 0 3 in 9, 0 2 in 1, 1 3 in 5
        PaperTrail x = Check.land("c40hqs-013-123-233-039-021-135", 0, 1, 2, 3);
        Check.tells(x, "START to INN", x.across(0, 0, 3), 1, 0);
        Check.tells(x, "0 to 2", x.across(0, 0, 2), 1, 5);
        Check.tells(x, "1 to 3", x.across(0, 1, 3), 1, 1);
        Check.tells(x, "the next one", x.across(0, 2, 3), 1, 0);
        Check.tells(x, "QUICK, straight: 5 against 6", x.across(1, 0, 3), 1, 1);
        Check.tells(x, "SLOW, 0 to 2: 2 against 12", x.across(2, 0, 2), 1, 10);
        x.wind(1);
        Check.tells(x, "when it comes there, not when it leaves", x.across(0, 0, 1), 1, 2);
        x.wind(1 << 1);
        Check.tells(x, "without the CHECK between", x.across(0, 0, 2), 1, 7);
        x.wind(1 << 3);
        Check.tells(x, "nothing at the INN", x.across(0, 0, 3), 1, 0);
        PaperTrail y = Check.land("c20t-019", 0, 1);
        Check.tells(y, "TIRED", y.across(0, 0, 1), 1, 0);
    }

    private static void acrossSooner() {
        for (int minutes = 1; minutes <= 9; minutes++) {
            PaperTrail x = Check.land("c30h-012-122-02" + minutes, 0, 1, 2);
            Check.tells(x, "4 less " + minutes, x.across(0, 0, 2), 1, 4 - minutes);
        }
        PaperTrail y = Check.land("c30s-011-121-029", 0, 1, 2);
        Check.tells(y, "4 less 18", y.across(0, 0, 2), 1, -14);
        y.lure(1, 0, 5);
        Check.tells(y, "14 less 18", y.across(0, 0, 2), 1, -4);
    }

    private static void acrossNone() {
        PaperTrail x = Edges.rich();
        Check.none(x, "0 to the INN", () -> x.across(0, 0, 5));
        Check.none(x, "0 to 4", () -> x.across(3, 0, 3));
        Check.tells(x, "0 to 2", x.across(0, 0, 2), 1, -2);
    }

    private static void acrossBad() {
        PaperTrail x = Edges.rich();
        for (int i : Edges.outside(4)) {
            Check.bad(x, "HOUND " + i, () -> x.across(i, 0, 1));
        }
        Check.bad(x, "k is j", () -> x.across(0, 1, 1));
        Check.bad(x, "both 0", () -> x.across(0, 0, 0));
        Check.bad(x, "k above j", () -> x.across(0, 2, 1));
        Check.bad(x, "k below 0", () -> x.across(0, -1, 1));
        Check.bad(x, "both below 0", () -> x.across(0, -2, -1));
        Check.bad(x, "far off", () -> x.across(0, MIN, MAX));
        Check.bad(x, "far off", () -> x.across(0, MAX, MIN));
        Check.bad(x, "both far off", () -> x.across(0, MAX, MAX));
    }

    private static void acrossState() {
        PaperTrail x = Check.land("c20h-011");
        Check.state(x, "no TRAIL", () -> x.across(0, 0, 1));
    }

    private static void acrossBeyond() {
        PaperTrail x = Edges.rich();
        Check.tells(x, "the last place", x.across(0, 4, 5), 1, 0);
        Check.found(x, "j one too far", () -> x.across(0, 4, 6), Check.BEYOND);
        Check.found(x, "j one too far, k the INN", () -> x.across(0, 5, 6), Check.BEYOND);
        Check.found(x, "both too far", () -> x.across(0, 6, 7), Check.BEYOND);
        Check.found(x, "far off", () -> x.across(0, 0, MAX), Check.BEYOND);
        Check.found(x, "both far off", () -> x.across(0, MAX - 1, MAX), Check.BEYOND);
    }

    private static void acrossOrder() {
        PaperTrail x = Check.land("c20h-011");
        Check.bad(x, "BAD (HOUND) ahead of STATE", () -> x.across(1, 0, 1));
        Check.bad(x, "BAD (k, j) ahead of STATE", () -> x.across(0, 1, 1));
        Check.state(x, "STATE ahead of BEYOND", () -> x.across(0, 0, 9));
        PaperTrail y = Edges.rich();
        Check.bad(y, "BAD (HOUND) ahead of BEYOND", () -> y.across(4, 0, 9));
        Check.bad(y, "BAD (k, j) ahead of BEYOND", () -> y.across(0, 9, 9));
        Check.bad(y, "BAD (HOUND) ahead of NONE", () -> y.across(4, 0, 5));
        Check.found(y, "BEYOND ahead of NONE", () -> y.across(0, 0, 6), Check.BEYOND);
    }

    /** At 4 (next 5): FALSE ends towards 0, 1, 2, 3 of so many MINUTES, laid the other way round; and towards 6. */
    private static PaperTrail party(int... minutes) {
        PaperTrail x = Check.land("c70-041-141-241-341-451-461-561", 0, 4, 5, 6);
        x.lure(4, 6, 5);
        for (int to = 3; to >= 0; to--) {
            if (minutes[to] > 0) {
                x.lure(4, to, minutes[to]);
            }
        }
        return x;
    }

    private static void partedMany() {
        PaperTrail x = party(1, 2, 3, 4);
        // of two the first is back in 2, then in 8, the other one in 4, then in 12; of three the second is back in 4
        int[] due = {20, 8, 4, 2, 0, 0, 0, 0, 0};
        for (int n = 1; n <= 9; n++) {
            Check.due("parted(1, " + n + ")", x.parted(1, n), due[n - 1]);
        }
        PaperTrail y = party(0, 0, 0, 0);
        for (int n = 1; n <= 9; n++) {
            Check.due("no lesser one, " + n, y.parted(1, n), 0);
            Check.due("no CHECK, " + n, y.parted(0, n), 0);
        }
    }

    private static void partedByNumbers() {
        Check.due("towards 0 alone", party(5, 0, 0, 0).parted(1, 1), 10);
        Check.due("towards 3 alone", party(0, 0, 0, 5).parted(1, 1), 10);
        Check.due("towards 0, then 1: back in 2 goes on first", party(1, 5, 5, 0).parted(1, 2), 10);
        Check.due("by numbers, not as laid", party(5, 5, 1, 0).parted(1, 2), 10);
        Check.due("by numbers, not as laid", party(5, 1, 1, 1).parted(1, 2), 6);
        PaperTrail x = Check.land("c30h-011-121-021", 0, 1, 2);
        x.lure(0, 2, 5);
        Check.due("THE TRAIL comes ahead of a greater one", x.parted(0, 1), 0);
        // by the number of the next PLACE, not of this one
        PaperTrail y = Check.land("c40h-011-121-131", 0, 1, 3);
        y.lure(1, 2, 1);
        Check.due("at 1, next 3: 2 comes ahead", y.parted(1, 1), 2);
        PaperTrail z = Check.land("c50h-031-311-141-321", 0, 3, 1, 4);
        z.lure(3, 2, 1);
        Check.due("at 3, next 1: 2 comes behind", z.parted(1, 1), 0);
    }

    private static void partedNext() {
        Check.due("one goes all", party(1, 1, 1, 1).parted(1, 1), 8);
        Check.due("two share them", party(1, 1, 1, 1).parted(1, 2), 4);
        Check.due("both back in 2: one takes 2, one THE TRAIL", party(1, 1, 1, 0).parted(1, 2), 2);
        Check.due("three share them", party(1, 1, 1, 1).parted(1, 3), 2);
        Check.due("four: each has one", party(5, 4, 3, 2).parted(1, 4), 4);
        Check.due("five: one has THE TRAIL", party(5, 4, 3, 2).parted(1, 5), 0);
    }

    private static void partedKind() {
        for (int kind = 0; kind < 6; kind++) {
            PaperTrail x = Check.land("c39" + Model.LETTERS.charAt(kind) + "-019-129", 0, 1, 2);
            x.lure(1, 0, 3);
            Check.due("one", x.parted(1, 1), 6);
            Check.due("two", x.parted(1, 2), 0);
        }
        PaperTrail y = Check.land("c30-011-121", 0, 1, 2);
        y.lure(1, 0, 3);
        Check.due("without HOUNDS", y.parted(1, 1), 6);
        Check.due("asked() is not told by it", y.asked(), 0);
    }

    private static void partedWind() {
        PaperTrail x = party(1, 2, 0, 0);
        x.wind(1 << 4 | 1);
        Check.due("one", x.parted(1, 1), 8);
        Check.due("nine", x.parted(1, 9), 2);
        Check.due("WIND alone", x.parted(0, 1), 2);
        Check.due("no WIND, no FALSE ends", x.parted(2, 1), 0);
    }

    private static void partedBad() {
        PaperTrail x = Edges.rich();
        for (int n : new int[] {0, 10, -1, MIN, MAX}) {
            Check.bad(x, "parted(0, " + n + ")", () -> x.parted(0, n));
            Check.bad(x, "at the INN, " + n, () -> x.parted(5, n));
        }
        Check.bad(x, "parted(-1, 1)", () -> x.parted(-1, 1));
        Check.bad(x, "parted(MIN, 1)", () -> x.parted(MIN, 1));
    }

    private static void partedState() {
        PaperTrail x = Check.land("c20h-011");
        Check.state(x, "no TRAIL", () -> x.parted(0, 1));
        PaperTrail y = new PaperTrail();
        Check.state(y, "no PLACES", () -> y.parted(0, 9));
    }

    private static void partedBeyond() {
        PaperTrail x = Edges.rich();
        Check.found(x, "parted(6, 1)", () -> x.parted(6, 1), Check.BEYOND);
        Check.found(x, "parted(7, 9)", () -> x.parted(7, 9), Check.BEYOND);
        Check.found(x, "parted(MAX, 1)", () -> x.parted(MAX, 1), Check.BEYOND);
    }

    private static void partedInn() {
        PaperTrail x = Edges.rich();
        Check.due("one", x.parted(5, 1), 0);
        Check.due("nine", x.parted(5, 9), 0);
        x.wind(127);
        Check.due("in the WIND", x.parted(5, 1), 0);
        Check.due("ahead of it", x.parted(4, 1), 2);
        PaperTrail y = Edges.longRun("0h");
        y.wind(127);
        Check.due("the last place of the longest TRAIL", y.parted(6, 1), 0);
        Check.due("ahead of it", y.parted(5, 1), 2);
        Check.found(y, "behind it", () -> y.parted(7, 1), Check.BEYOND);
    }

    private static void partedOrder() {
        PaperTrail x = Check.land("c20h-011");
        Check.bad(x, "BAD (n) ahead of STATE", () -> x.parted(0, 0));
        Check.bad(x, "BAD (k) ahead of STATE", () -> x.parted(-1, 1));
        Check.state(x, "STATE ahead of BEYOND", () -> x.parted(9, 1));
        PaperTrail y = Edges.rich();
        Check.bad(y, "BAD ahead of BEYOND", () -> y.parted(6, 10));
    }
}
