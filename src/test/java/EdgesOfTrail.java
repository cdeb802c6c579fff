/** Promises 16 to 23 at their edges: THE TRAIL, FALSE ends, WIND, PAPER, kept COUNTRIES. */
final class EdgesOfTrail {
    private static final int NONE = PaperTrail.NONE;
    private static final int MIN = Integer.MIN_VALUE, MAX = Integer.MAX_VALUE;
    private static final String LONG = "c70h" + Edges.LONG;

    private EdgesOfTrail() { }

    static void all() {
        Edges.says(16, "THE TRAIL is a ROW", EdgesOfTrail::trailIsRow);
        Edges.says(16, "FALSE ends go", EdgesOfTrail::trailEndsGo);
        Edges.says(16, "WIND stays", EdgesOfTrail::trailWindStays);
        Edges.says(16, "how many PATHS", EdgesOfTrail::trailPaths);
        Edges.says(16, "BAD", EdgesOfTrail::trailBad);
        Edges.says(16, "STATE: no PLACES", EdgesOfTrail::trailState);
        Edges.says(16, "NOTHING", EdgesOfTrail::trailNothing);
        Edges.says(16, "UNLIKE: it is none", EdgesOfTrail::trailUnlike);
        Edges.says(16, "(In this order.)", EdgesOfTrail::trailOrder);
        Edges.says(17, "A FALSE end at a PLACE, towards another one", EdgesOfTrail::lureTowards);
        Edges.says(17, "so many MINUTES long", EdgesOfTrail::lureMinutes);
        Edges.says(17, "how many there are", EdgesOfTrail::lureCounts);
        Edges.says(17, "BAD: also MINUTES out of 1 .. 5", EdgesOfTrail::lureBad);
        Edges.says(17, "STATE: no TRAIL", EdgesOfTrail::lureState);
        Edges.says(17, "UNLIKE: there can't be one there", EdgesOfTrail::lureUnlike);
        Edges.says(17, "or there is one", EdgesOfTrail::lureTwice);
        Edges.says(17, "FULL: 8", EdgesOfTrail::lureFull);
        Edges.says(17, "(In this order.)", EdgesOfTrail::lureOrder);
        Edges.says(18, "FALSE ends from number n on (as they were laid) are no more", EdgesOfTrail::offFromNumber);
        Edges.says(18, "how many", EdgesOfTrail::offCounts);
        Edges.says(18, "BAD", EdgesOfTrail::offBad);
        Edges.says(19, "PLACES of a set are in the WIND, no others", EdgesOfTrail::windOfSet);
        Edges.says(19, "which were", EdgesOfTrail::windWhichWere);
        Edges.says(19, "BAD: also bits of PLACES that there are not", EdgesOfTrail::windBad);
        Edges.says(20, "How much PAPER it takes", EdgesOfTrail::paperTaken);
        Edges.says(20, "(0 without a TRAIL)", EdgesOfTrail::paperWithoutTrail);
        Edges.says(21, "With a SACK of v (0 .. 99) at which PLACE of THE TRAIL PAPER for FALSE ends there,"
            + " and the next PATH, together, does not last", EdgesOfTrail::emptyAt);
        Edges.says(21, "NONE: it lasts", EdgesOfTrail::emptyNone);
        Edges.says(21, "BAD", EdgesOfTrail::emptyBad);
        Edges.says(21, "STATE: no TRAIL", EdgesOfTrail::emptyState);
        Edges.says(22, "The COUNTRY (HEAD, THE TRAIL, FALSE ends, WIND) is kept in a place (0 .. 2)", EdgesOfTrail::keepAll);
        Edges.says(22, "how many FALSE ends", EdgesOfTrail::keepCounts);
        Edges.says(22, "BAD", EdgesOfTrail::keepBad);
        Edges.says(22, "STATE: no PLACES", EdgesOfTrail::keepState);
        Edges.says(23, "The COUNTRY is as it was kept", EdgesOfTrail::onAsKept);
        Edges.says(23, "how many FALSE ends", EdgesOfTrail::onCounts);
        Edges.says(23, "BAD", EdgesOfTrail::onBad);
        Edges.says(23, "NOTHING", EdgesOfTrail::onNothing);
    }

    private static void trailIsRow() {
        PaperTrail x = Check.land("c30-011-122-029");
        Check.fill(x, 5, 0, 1, 2);
        Check.due("by ROW 5", x.trail(5), 2);
        Check.due("its places", x.count(4), 3);
        x.lay(5, 1, 9);
        x.tear(5);
        Check.due("it stays, whatever becomes of the ROW", x.hares(2), 3);
        Check.fill(x, 0, 0, 2);
        Check.due("by ROW 0, shorter", x.trail(0), 1);
        Check.due("its places", x.count(4), 2);
        Check.due("hares(1)", x.hares(1), 9);
        Check.found(x, "hares(2)", () -> x.hares(2), Check.BEYOND);
        Check.holds(x, "the ROW stays", 0, 0, 2);
    }

    private static void trailEndsGo() {
        PaperTrail x = Edges.longRun("0h");
        Edges.layEnds(x, 8, 5);
        Check.due("the same TRAIL again", x.trail(0), 6);
        Check.due("count(5)", x.count(5), 0);
        Check.due("paper()", x.paper(), 54);
        Check.due("there can be one again", x.lure(1, 0, 1), 1);
        Check.fill(x, 1, 0, 6);
        Check.found(x, "what is none", () -> x.trail(1), Check.UNLIKE);
        Check.due("leaves them", x.count(5), 1);
    }

    private static void trailWindStays() {
        PaperTrail x = Check.land("c30h-011-122-029");
        x.wind(7);
        Check.fill(x, 0, 0, 1, 2);
        x.trail(0);
        Check.tells(x, "laid in the WIND", x.hound(0, 2), 1, 4);
        Check.fill(x, 0, 0, 2);
        x.trail(0);
        Check.tells(x, "laid anew", x.hound(0, 2), 1, 2);
        Check.due("wind()", x.wind(0), 7);
    }

    private static void trailPaths() {
        PaperTrail x = Check.land("c70-011-121-231-341-451-561-061-161-261-361-461");
        for (int many = 1; many <= 6; many++) {
            x.row(0, many + 1);
            for (int k = 0; k < many; k++) {
                x.lay(0, k, k);
            }
            x.lay(0, many, 6);
            Check.due("trail of " + many, x.trail(0), many);
            Check.due("count(4)", x.count(4), many + 1);
        }
        Check.due("asked() is not told by it", x.at(0, 6) * 0 + x.trail(0) * 0 + x.asked(), 6);
    }

    private static void trailBad() {
        PaperTrail x = Edges.rich();
        for (int r : Edges.outside(6)) {
            Check.bad(x, "trail(" + r + ")", () -> x.trail(r));
        }
    }

    private static void trailState() {
        PaperTrail x = new PaperTrail();
        Check.fill(x, 0, 0, 1);
        Check.state(x, "trail(0)", () -> x.trail(0));
        Check.write(x, 0, "c20-011");
        x.country(0);
        Check.due("with PLACES", x.trail(0), 1);
    }

    private static void trailNothing() {
        PaperTrail x = Edges.rich();
        Check.found(x, "trail(4)", () -> x.trail(4), Check.NOTHING);
        x.tear(0);
        Check.found(x, "a torn one", () -> x.trail(0), Check.NOTHING);
        Check.due("THE TRAIL stays", x.count(4), 6);
    }

    private static void isNone(PaperTrail x, String why, int... row) {
        Check.fill(x, 5, row);
        Check.found(x, why, () -> x.trail(5), Check.UNLIKE);
    }

    private static void trailUnlike() {
        PaperTrail x = Edges.rich();
        isNone(x, "an empty ROW");
        isNone(x, "the START alone", 0);
        isNone(x, "the INN alone", 6);
        isNone(x, "not from the START", 1, 2, 4, 5, 6);
        isNone(x, "the START later", 1, 0, 2, 4, 5, 6);
        isNone(x, "not to the INN", 0, 1, 2, 4, 5);
        isNone(x, "beyond the INN", 0, 1, 2, 4, 5, 6, 5);
        isNone(x, "the way back", 6, 5, 4, 2, 1, 0);
        isNone(x, "no first PATH", 0, 4, 5, 6);
        isNone(x, "no last PATH", 0, 1, 2, 4, 6);
        isNone(x, "the START twice", 0, 1, 0, 2, 4, 5, 6);
        isNone(x, "a PLACE twice", 0, 1, 2, 1, 4, 5, 6);
        isNone(x, "a PLACE twice at once", 0, 1, 1, 4, 5, 6);
        isNone(x, "the INN twice", 0, 1, 4, 5, 6, 5, 6);
        isNone(x, "PLACE 7", 0, 1, 7, 4, 5, 6);
        isNone(x, "PLACE -1", 0, 1, -1, 4, 5, 6);
        isNone(x, "PLACES that wrap around", 0, 1, 2 + 32, 4, 5, 6);
        isNone(x, "far off", 0, MIN, MAX, 6);
        isNone(x, "40 of them", new int[40]);
        int[] many = new int[40];
        many[39] = 6;
        isNone(x, "40 of them to the INN", many);
        isNone(x, "8 of 7 PLACES", 0, 1, 2, 3, 4, 5, 5, 6);
        Check.fill(x, 5, 0, 1, 2, 3, 4, 5, 6);
        Check.due("all 7 of 7", x.trail(5), 6);
        PaperTrail y = Check.land("c20");
        isNone(y, "without PATHS", 0, 1);
    }

    private static void trailOrder() {
        PaperTrail x = new PaperTrail();
        Check.bad(x, "BAD ahead of STATE", () -> x.trail(6));
        Check.state(x, "STATE ahead of NOTHING", () -> x.trail(0));
        x.row(1, 1);
        Check.state(x, "STATE ahead of UNLIKE", () -> x.trail(1));
        Check.write(x, 0, "c20-011");
        x.country(0);
        Check.found(x, "NOTHING", () -> x.trail(0), Check.NOTHING);
        Check.found(x, "UNLIKE", () -> x.trail(1), Check.UNLIKE);
    }

    private static void lureTowards() {
        PaperTrail x = Edges.longRun("0h");
        Check.due("the HOUND loses none", x.hound(0, 2) * 0 + x.asked(), 0);
        Check.due("a lesser one", x.lure(1, 0, 2), 1);
        Check.tells(x, "is gone", x.hound(0, 2), 1, 4);
        Check.due("a greater one", x.lure(1, 3, 5), 2);
        Check.tells(x, "is not gone", x.hound(0, 2), 1, 4);
        Check.due("at the START", x.lure(0, 2, 1), 3);
        Check.due("back to the START", x.lure(2, 0, 1), 4);
        Check.due("at the last PLACE ahead of the INN", x.lure(5, 3, 1), 5);
        PaperTrail y = Check.land("c30-021-121", 0, 2);
        Check.found(y, "no PATH at the START but THE TRAIL", () -> y.lure(0, 1, 1), Check.UNLIKE);
        PaperTrail z = Check.land("c30-011-121-021", 0, 1, 2);
        Check.due("towards the INN", z.lure(0, 2, 1), 1);
    }

    private static void lureMinutes() {
        for (int minutes = 1; minutes <= 5; minutes++) {
            PaperTrail x = Check.land("c30h-011-121", 0, 1, 2);
            Check.due("lure of " + minutes, x.lure(1, 0, minutes), 1);
            Check.due("paper()", x.paper(), 2 + minutes);
            Check.tells(x, "twice as many", x.hound(0, 2), 1, 2 * minutes);
        }
        PaperTrail y = Check.land("c30h-011-129", 0, 1, 2);
        Check.due("longer than the PATH", y.lure(1, 0, 5), 1);
    }

    private static void lureCounts() {
        PaperTrail x = Edges.longRun("0h");
        Edges.layEnds(x, 8, 1);
        Check.due("count(5)", x.count(5), 8);
        Check.due("off(3)", x.off(3), 5);
        Check.due("the fourth again", x.lure(3, 5, 1), 4);
        Check.due("asked() is not told by it", x.asked(), 0);
    }

    private static void lureBad() {
        PaperTrail x = Edges.rich();
        for (int minutes : new int[] {0, 6, -1, MIN, MAX}) {
            Check.bad(x, minutes + " MINUTES", () -> x.lure(1, 0, minutes));
        }
        for (int at : Edges.outside(7)) {
            Check.bad(x, "at " + at, () -> x.lure(at, 0, 1));
            Check.bad(x, "towards " + at, () -> x.lure(1, at, 1));
        }
        PaperTrail y = Check.land("c20-011", 0, 1);
        Check.bad(y, "towards a third PLACE of 2", () -> y.lure(0, 2, 1));
        Check.bad(y, "at a third PLACE of 2", () -> y.lure(2, 0, 1));
    }

    private static void lureState() {
        PaperTrail x = Check.land(LONG);
        Check.state(x, "no TRAIL yet", () -> x.lure(1, 0, 1));
        PaperTrail y = Edges.rich();
        y.country(0);
        Check.state(y, "no TRAIL any more", () -> y.lure(1, 0, 1));
    }

    private static void lureUnlike() {
        PaperTrail x = Edges.rich();
        Check.found(x, "THE TRAIL itself", () -> x.lure(0, 1, 1), Check.UNLIKE);
        Check.found(x, "THE TRAIL's last PATH", () -> x.lure(5, 6, 1), Check.UNLIKE);
        Check.found(x, "at the INN", () -> x.lure(6, 5, 1), Check.UNLIKE);
        Check.found(x, "off THE TRAIL", () -> x.lure(3, 2, 1), Check.UNLIKE);
        Check.found(x, "no PATH", () -> x.lure(0, 6, 1), Check.UNLIKE);
        Check.found(x, "no PATH", () -> x.lure(1, 6, 1), Check.UNLIKE);
        for (int at = 0; at < 7; at++) {
            int n = at;
            Check.found(x, "towards itself, " + at, () -> x.lure(n, n, 1), Check.UNLIKE);
        }
        Check.due("back along THE TRAIL there can", x.lure(5, 4, 1), 4);
    }

    private static void lureTwice() {
        PaperTrail x = Edges.rich();
        for (int minutes = 1; minutes <= 5; minutes++) {
            int n = minutes;
            Check.found(x, "the same again, " + minutes, () -> x.lure(2, 0, n), Check.UNLIKE);
        }
        Check.found(x, "the last one again", () -> x.lure(0, 2, 3), Check.UNLIKE);
        Check.due("the other one at 2", x.lure(2, 1, 1), 4);
        Check.due("off(0)", x.off(0), 4);
        Check.due("once they are off", x.lure(2, 0, 1), 1);
    }

    private static void lureFull() {
        PaperTrail x = Edges.longRun("0h");
        Edges.layEnds(x, 7, 1);
        Check.due("an eighth", x.lure(3, 5, 1), 8);
        Check.refused(x, "a ninth", () -> x.lure(0, 2, 1), PaperTrail.FULL, 0);
        Check.refused(x, "a ninth", () -> x.lure(5, 3, 5), PaperTrail.FULL, 0);
        Check.due("FULL is no FINDING", x.finding(), 0);
        x.off(7);
        Check.due("an eighth again", x.lure(0, 2, 1), 8);
    }

    private static void lureOrder() {
        PaperTrail x = Check.land(LONG);
        Check.bad(x, "BAD (MINUTES) ahead of STATE", () -> x.lure(1, 0, 6));
        Check.bad(x, "BAD (PLACE) ahead of STATE", () -> x.lure(7, 0, 1));
        Check.state(x, "STATE ahead of UNLIKE", () -> x.lure(1, 1, 1));
        Check.fill(x, 0, 0, 1, 2, 3, 4, 5, 6);
        x.trail(0);
        Edges.layEnds(x, 8, 1);
        Check.bad(x, "BAD ahead of UNLIKE, FULL", () -> x.lure(1, 1, 0));
        Check.bad(x, "BAD ahead of FULL", () -> x.lure(3, 5, 6));
        Check.found(x, "UNLIKE (there is one) ahead of FULL", () -> x.lure(1, 0, 1), Check.UNLIKE);
        Check.found(x, "UNLIKE (there can't be one) ahead of FULL", () -> x.lure(1, 2, 1), Check.UNLIKE);
        Check.refused(x, "FULL", () -> x.lure(3, 5, 1), PaperTrail.FULL, 0);
    }

    private static void offFromNumber() {
        for (int n = 0; n <= 8; n++) {
            PaperTrail x = Edges.longRun("0h");
            for (int k = 0; k < 8; k++) {
                x.lure(Edges.ENDS[k][0], Edges.ENDS[k][1], 1 + k % 5);
            }
            x.off(n);
            Check.due("left", x.count(5), n);
            int paper = 54;
            for (int k = 0; k < 8; k++) {
                int end = k;
                paper += k < n ? 1 + k % 5 : 0;
                if (k < n) {
                    Check.found(x, "stays: " + k, () -> x.lure(Edges.ENDS[end][0], Edges.ENDS[end][1], 1), Check.UNLIKE);
                }
            }
            Check.due("paper()", x.paper(), paper);
            if (n < 8) {
                Check.due("is no more: " + n, x.lure(Edges.ENDS[n][0], Edges.ENDS[n][1], 1), n + 1);
            }
        }
    }

    private static void offCounts() {
        PaperTrail x = Edges.longRun("0h");
        Check.due("of none", x.off(0), 0);
        Edges.layEnds(x, 8, 1);
        Check.due("none of 8", x.off(8), 0);
        Check.due("one of 8", x.off(7), 1);
        Check.due("two of 7", x.off(5), 2);
        Check.due("all 5", x.off(0), 5);
        Check.due("none is left", x.off(0), 0);
        Check.due("THE TRAIL stays", x.count(4), 7);
    }

    private static void offBad() {
        PaperTrail x = Edges.rich();
        for (int n : new int[] {-1, 4, 8, 9, MIN, MAX}) {
            Check.bad(x, "off(" + n + ") of 3", () -> x.off(n));
        }
        Check.due("off(3) of 3", x.off(3), 0);
        PaperTrail y = Check.land(LONG);
        Check.bad(y, "off(1) without a TRAIL", () -> y.off(1));
        Check.bad(y, "off(-1) without a TRAIL", () -> y.off(-1));
        Check.due("off(0) without a TRAIL", y.off(0), 0);
    }

    private static void windOfSet() {
        PaperTrail x = Check.land("c40h-011-121-231", 0, 1, 2, 3);
        for (int set = 0; set < 16; set++) {
            x.wind(set);
            Check.tells(x, "wind(" + set + ")", x.hound(0, 2), 1, 2 * Integer.bitCount(set & 7));
            for (int k = 0; k < 3; k++) {
                Check.due("CHECK at " + k, x.call(k), set >> k & 1);
            }
        }
        PaperTrail y = Check.land("c40h-011-121-231-131", 0, 1, 3);
        y.wind(1 << 2);
        Check.tells(y, "a PLACE off THE TRAIL", y.hound(0, 2), 1, 0);
    }

    private static void windWhichWere() {
        PaperTrail x = Check.land("c70");
        Check.due("none at first", x.wind(127), 0);
        Check.due("all", x.wind(1), 127);
        Check.due("the START", x.wind(64), 1);
        Check.due("the INN", x.wind(0), 64);
        Check.due("none", x.wind(0), 0);
    }

    private static void windBad() {
        for (int places = 2; places <= 7; places++) {
            PaperTrail x = Check.land("c" + places + "0");
            int all = (1 << places) - 1;
            Check.due("all of " + places, x.wind(all), 0);
            Check.bad(x, "one more", () -> x.wind(all + 1));
            Check.bad(x, "one more beside all", () -> x.wind(2 * all + 1));
            for (int set : new int[] {-1, MIN, MAX, 1 << 30, MIN + 1, ~all}) {
                Check.bad(x, "wind(" + set + ")", () -> x.wind(set));
            }
            Check.due("they stay", x.wind(0), all);
        }
        PaperTrail y = new PaperTrail();
        Check.due("without PLACES", y.wind(0), 0);
        Check.bad(y, "a bit without PLACES", () -> y.wind(1));
        Check.bad(y, "-1 without PLACES", () -> y.wind(-1));
    }

    private static void paperTaken() {
        PaperTrail x = Check.land("c20-011", 0, 1);
        Check.due("the least", x.paper(), 1);
        PaperTrail y = Edges.longRun("0h");
        Check.due("without FALSE ends", y.paper(), 54);
        Edges.layEnds(y, 8, 5);
        Check.due("the most", y.paper(), 94);
        y.wind(127);
        y.head(9);
        Check.due("whatever WIND and HEAD are", y.paper(), 94);
        y.off(7);
        Check.due("one less", y.paper(), 89);
    }

    private static void paperWithoutTrail() {
        Check.due("without PLACES", new PaperTrail().paper(), 0);
        PaperTrail x = Check.land(LONG);
        Check.due("without a TRAIL", x.paper(), 0);
        PaperTrail y = Edges.rich();
        y.country(0);
        Check.due("without one any more", y.paper(), 0);
    }

    private static void emptyAt() {
        // THE TRAIL 0 2 1 3: 4 at PLACE 0, 3 and 5 at PLACE 2, 2 and 1 at PLACE 1: 4, 12, 15 in all
        PaperTrail x = Check.land("c40h-024-213-132-011", 0, 2, 1, 3);
        x.lure(2, 0, 5);
        x.lure(1, 0, 1);
        int[][] sacks = {{0, 0}, {3, 0}, {4, 2}, {7, 2}, {11, 2}, {12, 1}, {14, 1}};
        for (int[] sack : sacks) {
            Check.due("empty(" + sack[0] + ")", x.empty(sack[0]), sack[1]);
        }
        x.wind(15);
        Check.due("the WIND takes it later", x.empty(11), 2);
        Check.due("asked() is not told by it", x.asked(), 0);
    }

    private static void emptyNone() {
        PaperTrail x = Check.land("c20-011", 0, 1);
        Check.due("the least does not last", x.empty(0), 0);
        Check.none(x, "just enough", () -> x.empty(1));
        PaperTrail y = Edges.longRun("0h");
        Edges.layEnds(y, 8, 5);
        Check.due("one too few", y.empty(93), 5);
        Check.none(y, "just enough", () -> y.empty(94));
        Check.none(y, "more than enough", () -> y.empty(95));
        Check.none(y, "the most", () -> y.empty(99));
    }

    private static void emptyBad() {
        PaperTrail x = Edges.rich();
        for (int v : Edges.outside(100)) {
            Check.bad(x, "empty(" + v + ")", () -> x.empty(v));
        }
        PaperTrail y = Check.land(LONG);
        for (int v : Edges.outside(100)) {
            Check.bad(y, "BAD ahead of STATE, " + v, () -> y.empty(v));
        }
    }

    private static void emptyState() {
        PaperTrail x = Check.land(LONG);
        Check.state(x, "empty(0)", () -> x.empty(0));
        Check.state(x, "empty(99)", () -> x.empty(99));
        PaperTrail y = new PaperTrail();
        Check.state(y, "without PLACES", () -> y.empty(99));
    }

    private static void keepAll() {
        PaperTrail x = Edges.longRun("0h");
        x.head(4);
        Edges.layEnds(x, 3, 2);
        x.wind(5);
        long[] digests = new long[3];
        for (int k = 0; k < 3; k++) {
            Check.due("keep(" + k + ")", x.keep(k), 3 - k);
            Check.due("count(9)", x.count(9), k + 1);
            x.off(2 - k);
            x.head(5 + k);
            x.wind(6 + k);
        }
        int[][] want = {{4, 3, 5}, {5, 2, 6}, {6, 1, 7}};
        for (int k = 2; k >= 0; k--) {
            Check.due("on(" + k + ")", x.on(k), want[k][1]);
            Check.due("HEAD", x.count(3), want[k][0]);
            Check.due("FALSE ends", x.paper(), 54 + 2 * want[k][1]);
            Check.due("THE TRAIL", x.count(4), 7);
            Check.due("WIND", x.wind(0), want[k][2]);
            digests[k] = x.digest();
        }
        Check.due("each by itself", digests[0] != digests[1] && digests[1] != digests[2] ? 1 : 0, 1);
    }

    private static void keepCounts() {
        PaperTrail x = Check.land(LONG);
        Check.due("without a TRAIL", x.keep(0), 0);
        Check.fill(x, 0, 0, 1, 2, 3, 4, 5, 6);
        x.trail(0);
        Check.due("without FALSE ends", x.keep(1), 0);
        Edges.layEnds(x, 8, 1);
        Check.due("8", x.keep(2), 8);
        Check.due("over another one", x.keep(0), 8);
        Check.due("three are kept", x.count(9), 3);
        x.off(1);
        Check.due("over the same one", x.keep(2), 1);
        Check.due("on it", x.on(2), 1);
        Check.due("asked() is not told by it", x.asked(), 0);
    }

    private static void keepBad() {
        PaperTrail x = Edges.rich();
        PaperTrail y = new PaperTrail();
        for (int k : Edges.outside(3)) {
            Check.bad(x, "keep(" + k + ")", () -> x.keep(k));
            Check.bad(y, "BAD ahead of STATE, " + k, () -> y.keep(k));
        }
    }

    private static void keepState() {
        PaperTrail x = new PaperTrail();
        for (int k = 0; k < 3; k++) {
            int n = k;
            Check.state(x, "keep(" + k + ")", () -> x.keep(n));
        }
        Check.due("none is kept", x.count(9), 0);
        PaperTrail y = Check.land("c20");
        Check.due("two PLACES are enough", y.keep(0), 0);
    }

    private static void onAsKept() {
        PaperTrail x = Edges.rich();
        Check.due("on(1)", x.on(1), 2);
        Check.due("HEAD", x.count(3), 3);
        Check.due("THE TRAIL", x.count(4), 6);
        Check.due("PAPER", x.paper(), 25);
        Check.due("WIND", x.wind(0), 1 << 4);
        x.head(9);
        x.off(0);
        Check.fill(x, 0, 0, 1, 4, 5, 6);
        x.trail(0);
        Check.due("gone on from, it is kept as it was", x.on(1), 2);
        Check.due("HEAD again", x.count(3), 3);
        Check.due("THE TRAIL again", x.hares(2), 7);
        Check.due("WIND again", x.wind(3), 1 << 4);
        Check.due("the first FALSE end", x.lure(2, 0, 1), PaperTrail.FINDING);
        Check.due("still one is kept", x.count(9), 1);
        PaperTrail y = Check.land("c20h-011");
        y.keep(0);
        Check.fill(y, 0, 0, 1);
        y.trail(0);
        y.wind(3);
        Check.due("on one without a TRAIL", y.on(0), 0);
        Check.state(y, "no TRAIL again", () -> y.hares(0));
        Check.due("no WIND again", y.wind(0), 0);
        Check.due("ROWS are not kept", y.count(7), 1);
    }

    private static void onCounts() {
        PaperTrail x = Edges.longRun("0h");
        x.keep(0);
        Edges.layEnds(x, 8, 1);
        x.keep(2);
        Check.due("none", x.on(0), 0);
        Check.due("count(5)", x.count(5), 0);
        Check.due("8", x.on(2), 8);
        Check.due("count(5)", x.count(5), 8);
        Check.refused(x, "FULL again", () -> x.lure(3, 5, 1), PaperTrail.FULL, 0);
    }

    private static void onBad() {
        PaperTrail x = Edges.rich();
        PaperTrail y = new PaperTrail();
        for (int k : Edges.outside(3)) {
            Check.bad(x, "on(" + k + ")", () -> x.on(k));
            Check.bad(y, "without PLACES, " + k, () -> y.on(k));
        }
    }

    private static void onNothing() {
        PaperTrail x = Edges.rich();
        Check.found(x, "on(0)", () -> x.on(0), Check.NOTHING);
        Check.found(x, "on(2)", () -> x.on(2), Check.NOTHING);
        Check.due("on(1)", x.on(1), 2);
        x.country(0);
        Check.found(x, "gone by a COUNTRY anew", () -> x.on(1), Check.NOTHING);
        PaperTrail y = new PaperTrail();
        Check.found(y, "without PLACES", () -> y.on(0), Check.NOTHING);
    }
}
