/** Promises 24 to 29 at their edges: hares, HOUNDS, packs, what is CAUGHT, CALLS. */
final class EdgesOfRun {
    private static final int NONE = PaperTrail.NONE;
    private static final int MAX = Integer.MAX_VALUE;

    private EdgesOfRun() { }

    static void all() {
        Edges.says(24, "The minute in which the hares are at place k of THE TRAIL (0: the START)", EdgesOfRun::haresAt);
        Edges.says(24, "BAD: below 0", EdgesOfRun::haresBad);
        Edges.says(24, "STATE", EdgesOfRun::haresState);
        Edges.says(24, "BEYOND", EdgesOfRun::haresBeyond);
        Edges.says(24, "(In this order.)", EdgesOfRun::haresOrder);
        Edges.says(25, "The minute in which a HOUND comes to place k of THE TRAIL", EdgesOfRun::comesTo);
        Edges.says(25, "in which it leaves it by asked() (of the INN: NONE)", EdgesOfRun::comesLeaves);
        Edges.says(25, "BAD", EdgesOfRun::comesBad);
        Edges.says(25, "STATE", EdgesOfRun::comesState);
        Edges.says(25, "BEYOND", EdgesOfRun::comesBeyond);
        Edges.says(25, "(In this order.)", EdgesOfRun::comesOrder);
        Edges.says(26, "HOUNDS by when they come to place k", EdgesOfRun::packByMinutes);
        Edges.says(26, "(of alike ones by numbers)", EdgesOfRun::packAlike);
        Edges.says(26, "come to a ROW (anew)", EdgesOfRun::packRow);
        Edges.says(26, "how many", EdgesOfRun::packCounts);
        Edges.says(26, "BAD", EdgesOfRun::packBad);
        Edges.says(26, "STATE", EdgesOfRun::packState);
        Edges.says(26, "BEYOND", EdgesOfRun::packBeyond);
        Edges.says(26, "(In this order.)", EdgesOfRun::packOrder);
        Edges.says(27, "At which place of THE TRAIL (1 ..) the hares are CAUGHT", EdgesOfRun::caughtWhere);
        Edges.says(27, "by whom (the first who comes there; of alike ones the least) by asked()", EdgesOfRun::caughtByWhom);
        Edges.says(27, "NONE: never", EdgesOfRun::caughtNever);
        Edges.says(27, "STATE", EdgesOfRun::caughtState);
        Edges.says(28, "How many minutes ahead of the first HOUND the hares are at the INN, told by asked()",
            EdgesOfRun::aheadAtInn);
        Edges.says(28, "(perhaps below 0): 1", EdgesOfRun::aheadBelow);
        Edges.says(28, "STATE: also without HOUNDS", EdgesOfRun::aheadState);
        Edges.says(29, "HOUNDS (bits) that CALL ahead of all others at place k", EdgesOfRun::callAhead);
        Edges.says(29, "(the one who leaves that CHECK first", EdgesOfRun::callFirst);
        Edges.says(29, "alike ones all", EdgesOfRun::callAlike);
        Edges.says(29, "0: no CHECK, or no HOUNDS)", EdgesOfRun::callNone);
        Edges.says(29, "BAD: below 0", EdgesOfRun::callBad);
        Edges.says(29, "STATE", EdgesOfRun::callState);
        Edges.says(29, "BEYOND", EdgesOfRun::callBeyond);
        Edges.says(29, "(In this order.)", EdgesOfRun::callOrder);
    }

    private static void haresAt() {
        PaperTrail x = Edges.longRun("9");
        for (int k = 0; k <= 6; k++) {
            Check.due("hares(" + k + ")", x.hares(k), 9 * k);
        }
        x.lure(1, 0, 5);
        x.wind(127);
        Check.due("FALSE ends, WIND, HEAD are nothing to them", x.hares(6), 54);
        PaperTrail y = Check.land("c20h-011", 0, 1);
        Check.due("the shortest", y.hares(1), 1);
        Check.due("asked() is not told by it", y.asked(), 0);
        // places are THE TRAIL's, not PLACES
        PaperTrail z = Check.land("c40-023-215-137", 0, 2, 1, 3);
        Check.due("place 1 is PLACE 2", z.hares(1), 3);
        Check.due("place 2 is PLACE 1", z.hares(2), 8);
    }

    private static void haresBad() {
        PaperTrail x = Edges.rich();
        Check.bad(x, "hares(-1)", () -> x.hares(-1));
        Check.bad(x, "hares(NONE)", () -> x.hares(NONE));
        Check.bad(x, "hares(MIN)", () -> x.hares(Integer.MIN_VALUE));
    }

    private static void haresState() {
        PaperTrail x = Check.land("c20-011");
        Check.state(x, "no TRAIL", () -> x.hares(0));
        PaperTrail y = new PaperTrail();
        Check.state(y, "no PLACES", () -> y.hares(0));
    }

    private static void haresBeyond() {
        PaperTrail x = Edges.rich();
        Check.due("the last place", x.hares(5), 22);
        Check.found(x, "hares(6)", () -> x.hares(6), Check.BEYOND);
        Check.found(x, "hares(MAX)", () -> x.hares(MAX), Check.BEYOND);
        PaperTrail y = Check.land("c70-061", 0, 6);
        Check.found(y, "a PLACE, but no place", () -> y.hares(2), Check.BEYOND);
    }

    private static void haresOrder() {
        PaperTrail x = Check.land("c20-011");
        Check.bad(x, "BAD ahead of STATE", () -> x.hares(-1));
        Check.state(x, "STATE ahead of BEYOND", () -> x.hares(9));
    }

    private static void comesTo() {
        PaperTrail x = Edges.longRun("9hqst");
        int[] pace = {9, 5, 18, 19};
        for (int i = 0; i < 4; i++) {
            for (int k = 0; k <= 6; k++) {
                Check.due("comes(" + i + ", " + k + ")", x.comes(i, k), 9 + k * pace[i]);
            }
        }
        x.head(0);
        Check.due("at the START in minute 0", x.comes(0, 0), 0);
        Check.due("at the INN", x.comes(3, 6), 114);
        x.wind(127);
        Check.due("CHECKS on the way: 2 minutes at each of 6", x.comes(0, 6), 66);
    }

    private static void comesLeaves() {
        PaperTrail x = Edges.longRun("0h");
        Check.tells(x, "no CHECK: at once", x.comes(0, 0), 0, 0);
        Check.tells(x, "the INN", x.comes(0, 6), 54, NONE);
        x.lure(1, 0, 5);
        x.lure(0, 2, 5);
        Check.tells(x, "a CHECK without anything lesser", x.comes(0, 0), 0, 0);
        Check.tells(x, "a CHECK", x.comes(0, 1), 9, 19);
        x.wind(127);
        Check.tells(x, "in the WIND", x.comes(0, 0), 0, 12);
        Check.tells(x, "the INN in the WIND", x.comes(0, 6), 86, NONE);
        PaperTrail y = Check.land("c20h-011", 0, 1);
        Check.tells(y, "the nearest INN", y.comes(0, 1), 1, NONE);
    }

    private static void comesBad() {
        PaperTrail x = Edges.rich();
        for (int i : Edges.outside(4)) {
            Check.bad(x, "comes(" + i + ", 0)", () -> x.comes(i, 0));
        }
        Check.bad(x, "comes(0, -1)", () -> x.comes(0, -1));
        Check.bad(x, "comes(0, MIN)", () -> x.comes(0, Integer.MIN_VALUE));
        PaperTrail y = Check.land("c20-011", 0, 1);
        Check.bad(y, "without HOUNDS", () -> y.comes(0, 0));
    }

    private static void comesState() {
        PaperTrail x = Check.land("c20h-011");
        Check.state(x, "no TRAIL", () -> x.comes(0, 0));
        PaperTrail y = Edges.rich();
        y.country(0);
        Check.state(y, "no TRAIL any more", () -> y.comes(3, 0));
    }

    private static void comesBeyond() {
        PaperTrail x = Edges.rich();
        Check.due("the last place", x.comes(0, 5), 29);
        Check.found(x, "comes(0, 6)", () -> x.comes(0, 6), Check.BEYOND);
        Check.found(x, "comes(3, MAX)", () -> x.comes(3, MAX), Check.BEYOND);
    }

    private static void comesOrder() {
        PaperTrail x = Check.land("c20h-011");
        Check.bad(x, "BAD (HOUND) ahead of STATE", () -> x.comes(1, 0));
        Check.bad(x, "BAD (place) ahead of STATE", () -> x.comes(0, -1));
        Check.state(x, "STATE ahead of BEYOND", () -> x.comes(0, 9));
        PaperTrail y = Edges.rich();
        Check.bad(y, "BAD ahead of BEYOND", () -> y.comes(4, 6));
    }

    private static void packByMinutes() {
        PaperTrail x = Check.land("c30tshq-012-122-029", 0, 1, 2);
        Check.due("at place 1 in 5, 4, 2, 1", x.pack(1, 4), 4);
        Check.holds(x, "at place 1", 4, 3, 2, 1, 0);
        Check.due("at the INN", x.pack(2, 4), 4);
        Check.holds(x, "at the INN", 4, 3, 2, 1, 0);
        x.lure(1, 0, 5);
        // no CALL comes in time: they leave 1 in 15, 14, 12, 11
        x.pack(2, 4);
        Check.holds(x, "behind a CHECK", 4, 3, 2, 1, 0);
        PaperTrail y = Check.land("c40lh-011-129-239-021", 0, 1, 2, 3);
        y.wind(1);
        y.pack(1, 0);
        Check.holds(y, "the LEADER ahead of the HOUND", 0, 0, 1);
        PaperTrail z = Check.land("c30ha-011-129-021", 0, 1, 2);
        z.lure(1, 0, 1);
        z.pack(1, 0);
        Check.holds(z, "alike", 0, 0, 1);
        z.pack(2, 0);
        Check.holds(z, "one minute is enough: 12 and 10", 0, 1, 0);
    }

    private static void packAlike() {
        PaperTrail x = Edges.longRun("5qhsa");
        for (int n = 0; n < 2; n++) {
            x.pack(0, 1);
            Check.holds(x, "all at the START in minute 5", 1, 0, 1, 2, 3);
        }
        x.pack(1, 1);
        Check.holds(x, "0 first, 1 and 3 alike, 2 last", 1, 0, 1, 3, 2);
        PaperTrail y = Edges.longRun("5hhhh");
        y.wind(127);
        y.pack(6, 1);
        Check.holds(y, "four alike", 1, 0, 1, 2, 3);
    }

    private static void packRow() {
        PaperTrail x = Edges.longRun("5qh");
        for (int r = 0; r < 6; r++) {
            Check.due("a ROW that is missing, or there", x.pack(1, r), 2);
            Check.holds(x, "ROW " + r, r, 0, 1);
        }
        x.row(3, 40);
        x.pack(1, 3);
        Check.holds(x, "a long ROW is short", 3, 0, 1);
        x.row(3, 0);
        x.pack(1, 3);
        Check.holds(x, "an empty ROW is longer", 3, 0, 1);
        PaperTrail y = Edges.longRun("5");
        y.pack(1, 2);
        Check.due("an empty ROW is there", y.count(7), 2);
        Check.holds(y, "without HOUNDS", 2);
        Check.found(y, "an empty ROW", () -> y.mean(2), Check.NOUGHT);
    }

    private static void packCounts() {
        String hounds = "";
        for (int many = 0; many <= 4; many++) {
            PaperTrail x = Edges.longRun("5" + hounds);
            Check.due("of " + many, x.pack(6, 5), many);
            hounds += "h";
        }
        PaperTrail y = Edges.rich();
        Check.due("asked() is not told by it", y.pack(5, 5) * 0 + y.asked(), 31337);
    }

    private static void packBad() {
        PaperTrail x = Edges.rich();
        for (int r : Edges.outside(6)) {
            Check.bad(x, "pack(0, " + r + ")", () -> x.pack(0, r));
        }
        Check.bad(x, "pack(-1, 3)", () -> x.pack(-1, 3));
        Check.bad(x, "pack(MIN, 3)", () -> x.pack(Integer.MIN_VALUE, 3));
    }

    private static void packState() {
        PaperTrail x = Check.land("c20h-011");
        Check.fill(x, 3, 5);
        Check.state(x, "no TRAIL", () -> x.pack(0, 3));
        PaperTrail y = new PaperTrail();
        Check.state(y, "no PLACES", () -> y.pack(0, 3));
    }

    private static void packBeyond() {
        PaperTrail x = Edges.rich();
        Check.found(x, "pack(6, 3)", () -> x.pack(6, 3), Check.BEYOND);
        Check.found(x, "pack(MAX, 4)", () -> x.pack(MAX, 4), Check.BEYOND);
        Check.due("the last place", x.pack(5, 3), 4);
    }

    private static void packOrder() {
        PaperTrail x = Check.land("c20h-011");
        Check.bad(x, "BAD (ROW) ahead of STATE", () -> x.pack(0, 6));
        Check.bad(x, "BAD (place) ahead of STATE", () -> x.pack(-1, 0));
        Check.state(x, "STATE ahead of BEYOND", () -> x.pack(9, 0));
        PaperTrail y = Edges.rich();
        Check.bad(y, "BAD ahead of BEYOND", () -> y.pack(6, -1));
    }

    private static void caughtWhere() {
        // by 6 PATHS of 2 minutes a QUICK one gains 6: at each place 1
        PaperTrail x = Check.land("c70q-012-122-232-342-452-562", 0, 1, 2, 3, 4, 5, 6);
        for (int head = 1; head <= 6; head++) {
            x.head(head);
            Check.tells(x, "just then, at " + head, x.caught(), head, 0);
        }
        x.head(0);
        Check.tells(x, "not at the START, if both are there in minute 0", x.caught(), 1, 0);
        PaperTrail y = Check.land("c40h-021-211-131", 0, 2, 1, 3);
        Check.tells(y, "place 1 is PLACE 2", y.caught(), 1, 0);
    }

    private static void caughtByWhom() {
        PaperTrail x = Check.land("c20hq-019", 0, 1);
        Check.tells(x, "the first who comes, not the first in time", x.caught(), 1, 1);
        PaperTrail y = Check.land("c20hqqq-019", 0, 1);
        Check.tells(y, "the least of alike ones", y.caught(), 1, 1);
        PaperTrail z = Check.land("c20sshh-019", 0, 1);
        Check.tells(z, "in time, and the least", z.caught(), 1, 2);
        // at 1 the CASTER is in time alone, later the QUICK one would be the first
        PaperTrail w = Check.land("c40qa-022-211-139-011", 0, 2, 1, 3);
        w.lure(0, 1, 3);
        Check.due("the QUICK one comes in 7", w.comes(0, 1), 7);
        Check.tells(w, "by the CASTER", w.caught(), 1, 1);
    }

    private static void caughtNever() {
        PaperTrail x = Check.land("c20h-019", 0, 1);
        Check.tells(x, "in the same minute", x.caught(), 1, 0);
        x.head(1);
        Check.none(x, "one minute later", () -> x.caught());
        PaperTrail y = Check.land("c24q-019", 0, 1);
        Check.tells(y, "4 and 5 are 9", y.caught(), 1, 0);
        y.head(5);
        Check.none(y, "5 and 5 are not", () -> y.caught());
        PaperTrail z = Check.land("c20-019", 0, 1);
        Check.none(z, "no HOUNDS", () -> z.caught());
        PaperTrail w = Check.land("c77q-012-122-232-342-452-562", 0, 1, 2, 3, 4, 5, 6);
        Check.none(w, "one minute behind at the INN", () -> w.caught());
    }

    private static void caughtState() {
        PaperTrail x = Check.land("c20h-011");
        Check.state(x, "no TRAIL", () -> x.caught());
        PaperTrail y = new PaperTrail();
        Check.state(y, "no PLACES", () -> y.caught());
    }

    private static void aheadAtInn() {
        PaperTrail x = Check.land("c29shh-019", 0, 1);
        for (int head = 9; head >= 0; head--) {
            x.head(head);
            Check.tells(x, "by the first HOUND, HEAD " + head, x.ahead(), 1, head);
        }
        PaperTrail y = Edges.longRun("0t");
        y.wind(127);
        Check.tells(y, "6 times 19 and 2, less 54", y.ahead(), 1, 72);
    }

    private static void aheadBelow() {
        PaperTrail x = Check.land("c25hq-019", 0, 1);
        Check.tells(x, "1", x.ahead(), 1, 1);
        x.head(4);
        Check.tells(x, "0", x.ahead(), 1, 0);
        x.head(3);
        Check.tells(x, "-1, no refusal", x.ahead(), 1, -1);
        PaperTrail y = Edges.longRun("0q");
        Check.tells(y, "30 less 54", y.ahead(), 1, -24);
    }

    private static void aheadState() {
        PaperTrail x = Check.land("c20h-011");
        Check.state(x, "no TRAIL", () -> x.ahead());
        PaperTrail y = Check.land("c20-011", 0, 1);
        Check.state(y, "no HOUNDS", () -> y.ahead());
        PaperTrail z = new PaperTrail();
        Check.state(z, "neither", () -> z.ahead());
        PaperTrail w = Check.land("c20h-011", 0, 1);
        Check.tells(w, "one HOUND", w.ahead(), 1, 0);
    }

    private static void callAhead() {
        PaperTrail x = Edges.longRun("0hqsa");
        x.wind(1 << 1 | 1 << 5);
        Check.due("at 1", x.call(1), 2);
        Check.due("at 5", x.call(5), 2);
        PaperTrail y = Edges.longRun("0aaah");
        y.lure(1, 0, 1);
        Check.due("all CASTERS, but not the HOUND", y.call(1), 7);
        PaperTrail z = Edges.longRun("0aaaa");
        z.lure(1, 0, 1);
        Check.due("all four", z.call(1), 15);
        Check.due("asked() is not told by it", z.asked(), 0);
    }

    private static void callFirst() {
        // at 1 the HOUND comes in 1 and leaves in 11, the CASTER likewise leaves in 1; a SLOW one in 2 is called
        PaperTrail x = Check.land("c30hsa-011-121-021", 0, 1, 2);
        x.lure(1, 0, 5);
        Check.due("the one who leaves, not the one who comes", x.call(1), 4);
        PaperTrail y = Check.land("c30hl-011-121-021", 0, 1, 2);
        y.wind(1);
        Check.due("the LEADER leaves in 1, the HOUND in 2", y.call(0), 2);
        PaperTrail z = Check.land("c40ql-012-122-232-021", 0, 1, 2, 3);
        z.lure(0, 2, 1);
        Check.due("the LEADER leaves in 1, the QUICK one in 0", z.call(0), 1);
    }

    private static void callAlike() {
        PaperTrail x = Check.land("c30hsta-011-121-021", 0, 1, 2);
        x.lure(0, 2, 5);
        Check.due("who is called at once CALLS in the same minute", x.call(0), 7);
        PaperTrail y = Edges.longRun("0hhhh");
        y.wind(1 << 3);
        Check.due("four", y.call(3), 15);
        PaperTrail z = Edges.longRun("0hh");
        z.wind(1 << 3);
        Check.due("two", z.call(3), 3);
    }

    private static void callNone() {
        PaperTrail x = Edges.longRun("0hq");
        for (int k = 0; k <= 6; k++) {
            Check.due("no CHECK at " + k, x.call(k), 0);
        }
        x.wind(1 << 6);
        Check.due("WIND at the INN is no CHECK", x.call(6), 0);
        x.wind(1 << 5);
        Check.due("but ahead of it", x.call(5), 2);
        PaperTrail y = Edges.longRun("0");
        y.wind(127);
        y.lure(1, 0, 1);
        Check.due("no HOUNDS", y.call(1), 0);
    }

    private static void callBad() {
        PaperTrail x = Edges.rich();
        Check.bad(x, "call(-1)", () -> x.call(-1));
        Check.bad(x, "call(MIN)", () -> x.call(Integer.MIN_VALUE));
    }

    private static void callState() {
        PaperTrail x = Check.land("c20h-011");
        Check.state(x, "no TRAIL", () -> x.call(0));
        PaperTrail y = new PaperTrail();
        Check.state(y, "no PLACES", () -> y.call(0));
    }

    private static void callBeyond() {
        PaperTrail x = Edges.rich();
        Check.due("the last place", x.call(5), 0);
        Check.found(x, "call(6)", () -> x.call(6), Check.BEYOND);
        Check.found(x, "call(MAX)", () -> x.call(MAX), Check.BEYOND);
        PaperTrail y = Edges.longRun("0");
        Check.found(y, "BEYOND without HOUNDS", () -> y.call(7), Check.BEYOND);
    }

    private static void callOrder() {
        PaperTrail x = Check.land("c20h-011");
        Check.bad(x, "BAD ahead of STATE", () -> x.call(-1));
        Check.state(x, "STATE ahead of BEYOND", () -> x.call(9));
    }
}
