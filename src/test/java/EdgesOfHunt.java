/** The document's 'Terms' at their edges, second half: paces, THE TRAIL, PAPER, CHECKS, CALLS, what is at RANDOM. */
final class EdgesOfHunt {
    private static final int NONE = PaperTrail.NONE;
    /** 1 (next 3) is beside all others: FALSE ends towards 0, 2, 4, 5; THE TRAIL is 0 1 3 6. */
    private static final String STAR = "-011-131-361-121-141-151";

    private EdgesOfHunt() { }

    static void all() {
        Edges.says(0, "The START is PLACE 0, the INN the last PLACE", EdgesOfHunt::startAndInn);
        Edges.says(0, "A PATH takes a HOUND its MINUTES", EdgesOfHunt::paceOfHound);
        Edges.says(0, "a QUICK one (LEADER, too) half of them (a half minute counts as one)", EdgesOfHunt::paceOfQuick);
        Edges.says(0, "a SLOW one twice as many", EdgesOfHunt::paceOfSlow);
        Edges.says(0, "a TIRED one 1 more than that", EdgesOfHunt::paceOfTired);
        Edges.says(0, "THE TRAIL is a row of unlike PLACES", EdgesOfHunt::trailUnlike);
        Edges.says(0, "the first one the START, the last one the INN", EdgesOfHunt::trailEnds);
        Edges.says(0, "a PATH between each and the next one", EdgesOfHunt::trailPaths);
        Edges.says(0, "(none at first)", EdgesOfHunt::trailNone);
        Edges.says(0, "The hares go it in the MINUTES of its PATHS, from minute 0 on", EdgesOfHunt::haresGo);
        Edges.says(0, "A FALSE end is at a PLACE of THE TRAIL (not the INN)", EdgesOfHunt::endAt);
        Edges.says(0, "towards a PLACE beside it that is not the next one of THE TRAIL", EdgesOfHunt::endTowards);
        Edges.says(0, "1 to 5 MINUTES long", EdgesOfHunt::endMinutes);
        Edges.says(0, "one at most towards each", EdgesOfHunt::endOnce);
        Edges.says(0, "(8 at most in all)", EdgesOfHunt::endEight);
        Edges.says(0, "PAPER: 1 for each MINUTE of PATHS of THE TRAIL, and of FALSE ends", EdgesOfHunt::paper);
        Edges.says(0, "On a PLACE in the WIND the paper of THE TRAIL is blown away", EdgesOfHunt::windBlows);
        Edges.says(0, "A HOUND is at the START in minute HEAD", EdgesOfHunt::atStart);
        Edges.says(0, "On a PLACE of THE TRAIL (not the INN) that has FALSE ends, or is in the WIND, there is a CHECK",
            EdgesOfHunt::checkThere);
        Edges.says(0, "it goes the FALSE ends one by one, till it finds THE TRAIL: those towards lesser numbers"
            + " than the next PLACE has, by numbers", EdgesOfHunt::goesLesser);
        Edges.says(0, "(a CASTER: those towards greater ones, the greatest first", EdgesOfHunt::casterGreater);
        Edges.says(0, "in the WIND all of them, in that order each)", EdgesOfHunt::windAll);
        Edges.says(0, "each takes twice its MINUTES", EdgesOfHunt::twice);
        Edges.says(0, "in the WIND it casts about for 2 minutes more", EdgesOfHunt::castsAbout);
        Edges.says(0, "A LEADER waits 1 minute instead, then goes right", EdgesOfHunt::leaderWaits);
        Edges.says(0, "A SLOW one (TIRED, too) goes right at once, if another one was CALLED FROM there by then",
            EdgesOfHunt::slowCalled);
        Edges.says(0, "a HOUND CALLS from a CHECK in the minute in which it leaves it by THE TRAIL", EdgesOfHunt::callsLeaving);
        Edges.says(0, "Then it goes to the next PLACE", EdgesOfHunt::goesOn);
        Edges.says(0, "(HOUNDS come to a CHECK by minutes, of alike ones by numbers: who comes ahead CALLS ahead.)",
            EdgesOfHunt::comeInOrder);
        Edges.says(0, "The hares are CAUGHT at the first PLACE of THE TRAIL behind the START to which a HOUND comes"
            + " no later than they do", EdgesOfHunt::caught);
        Edges.says(0, "At RANDOM: at a CHECK all FALSE ends there, and THE TRAIL, come in any order, all alike likely",
            EdgesOfHunt::atRandom);
        Edges.says(0, "those ahead of THE TRAIL are gone", EdgesOfHunt::randomGone);
        Edges.says(0, "(in the WIND 2 minutes more, at any order)", EdgesOfHunt::randomWind);
        Edges.says(0, "LOTS: a number comes from the one ahead by 48271 times it modulo 2147483647", EdgesOfHunt::lots);
        Edges.says(0, "the first from a seed (1 .. 2147483646)", EdgesOfHunt::seeds);
    }

    private static void startAndInn() {
        for (int places = 2; places <= 7; places++) {
            int inn = places - 1;
            PaperTrail x = Check.land("c" + places + "0h-0" + inn + "1", 0, inn);
            Check.due("trail to " + inn, x.count(4), 2);
            Check.fill(x, 1, inn, 0);
            Check.found(x, "the other way round", () -> x.trail(1), Check.UNLIKE);
        }
    }

    private static void pace(char letter, int minutes, int want) {
        PaperTrail x = Check.land("c20" + letter + "-01" + minutes, 0, 1);
        Check.due(letter + " by a PATH of " + minutes, x.comes(0, 1), want);
    }

    private static void paceOfHound() {
        for (int minutes = 1; minutes <= 9; minutes++) {
            pace('h', minutes, minutes);
            pace('a', minutes, minutes);
        }
    }

    private static void paceOfQuick() {
        int[] half = {0, 1, 1, 2, 2, 3, 3, 4, 4, 5};
        for (int minutes = 1; minutes <= 9; minutes++) {
            pace('q', minutes, half[minutes]);
            pace('l', minutes, half[minutes]);
        }
        PaperTrail x = Check.land("c70ql-011-121-231-341-451-561", 0, 1, 2, 3, 4, 5, 6);
        Check.due("a half minute by each PATH", x.comes(0, 6), 6);
        Check.due("a LEADER, too", x.comes(1, 6), 6);
    }

    private static void paceOfSlow() {
        for (int minutes = 1; minutes <= 9; minutes++) {
            pace('s', minutes, 2 * minutes);
        }
    }

    private static void paceOfTired() {
        for (int minutes = 1; minutes <= 9; minutes++) {
            pace('t', minutes, 2 * minutes + 1);
        }
        PaperTrail x = Check.land("c70t-011-121-231-341-451-561", 0, 1, 2, 3, 4, 5, 6);
        Check.due("1 more by each PATH", x.comes(0, 6), 18);
    }

    private static void trailIs(boolean due, int... row) {
        PaperTrail x = Check.land("c50-011-121-231-341-021-131");
        Check.fill(x, 0, row);
        Check.due("trail of " + java.util.Arrays.toString(row), x.trail(0), due ? row.length - 1 : PaperTrail.FINDING);
    }

    private static void trailUnlike() {
        trailIs(true, 0, 1, 2, 3, 4);
        trailIs(true, 0, 2, 1, 3, 4);
        trailIs(false, 0, 1, 2, 1, 3, 4);
        trailIs(false, 0, 1, 0, 2, 3, 4);
        trailIs(false, 0, 2, 3, 2, 3, 4);
        trailIs(false, 0, 0, 1, 3, 4);
        trailIs(false, 0, 1, 3, 4, 4);
    }

    private static void trailEnds() {
        trailIs(true, 0, 1, 3, 4);
        trailIs(false, 1, 3, 4);
        trailIs(false, 0, 1, 3);
        trailIs(false, 4, 3, 1, 0);
        trailIs(false, 0);
        trailIs(false, 4);
        trailIs(false);
    }

    private static void trailPaths() {
        trailIs(true, 0, 2, 3, 4);
        trailIs(false, 0, 3, 4);
        trailIs(false, 0, 1, 2, 4);
        trailIs(false, 0, 4);
        trailIs(false, 0, 5, 4);
        trailIs(false, 0, -1, 4);
    }

    private static void trailNone() {
        PaperTrail x = Check.land("c20-011");
        Check.due("none", x.count(4), 0);
        Check.state(x, "hares(0)", () -> x.hares(0));
    }

    private static void haresGo() {
        for (int head : new int[] {0, 9}) {
            PaperTrail x = Check.land("c4" + head + "-011-129-235", 0, 1, 2, 3);
            int[] minutes = {0, 1, 10, 15};
            for (int k = 0; k < 4; k++) {
                Check.due("hares(" + k + ")", x.hares(k), minutes[k]);
            }
        }
    }

    private static PaperTrail star(String headAndHounds) {
        return Check.land("c7" + headAndHounds + STAR, 0, 1, 3, 6);
    }

    private static void endAt() {
        PaperTrail x = Check.land("c40-011-121-231-021-131", 0, 1, 3);
        Check.due("at the START", x.lure(0, 2, 1), 1);
        Check.due("in the middle", x.lure(1, 2, 1), 2);
        Check.found(x, "at the INN", () -> x.lure(3, 1, 1), Check.UNLIKE);
        Check.found(x, "at the INN, off THE TRAIL", () -> x.lure(3, 2, 1), Check.UNLIKE);
        Check.found(x, "off THE TRAIL", () -> x.lure(2, 0, 1), Check.UNLIKE);
    }

    private static void endTowards() {
        PaperTrail x = star("0");
        Check.found(x, "the next one", () -> x.lure(1, 3, 1), Check.UNLIKE);
        Check.found(x, "not beside it", () -> x.lure(1, 6, 1), Check.UNLIKE);
        Check.found(x, "itself", () -> x.lure(1, 1, 1), Check.UNLIKE);
        Check.due("the one ahead", x.lure(1, 0, 1), 1);
        Check.due("the one ahead", x.lure(3, 1, 1), 2);
        Check.due("off THE TRAIL, lesser", x.lure(1, 2, 1), 3);
        Check.due("off THE TRAIL, greater", x.lure(1, 4, 1), 4);
        PaperTrail y = Check.land("c40-011-121-231-131", 0, 1, 2, 3);
        Check.due("a later one", y.lure(1, 3, 1), 1);
    }

    private static void endMinutes() {
        PaperTrail x = star("0");
        Check.bad(x, "0", () -> x.lure(1, 0, 0));
        Check.bad(x, "6", () -> x.lure(1, 0, 6));
        Check.due("1", x.lure(1, 0, 1), 1);
        Check.due("5", x.lure(1, 2, 5), 2);
        Check.due("PAPER", x.paper(), 9);
    }

    private static void endOnce() {
        PaperTrail x = star("0");
        x.lure(1, 0, 1);
        Check.found(x, "a second one", () -> x.lure(1, 0, 1), Check.UNLIKE);
        Check.found(x, "a longer one", () -> x.lure(1, 0, 5), Check.UNLIKE);
        Check.due("towards another one", x.lure(1, 2, 1), 2);
        PaperTrail y = Check.land("c40-011-121-231-021", 0, 1, 2, 3);
        Check.due("towards 0 from 1", y.lure(1, 0, 1), 1);
        Check.due("towards 0 from 2", y.lure(2, 0, 1), 2);
    }

    private static void endEight() {
        PaperTrail x = Check.land("c70-011-131-361-121-141-151-231-341-351", 0, 1, 3, 6);
        int[][] ends = {{1, 0}, {1, 2}, {1, 4}, {1, 5}, {3, 1}, {3, 2}, {3, 4}, {3, 5}};
        for (int n = 0; n < 8; n++) {
            Check.due("lure " + n, x.lure(ends[n][0], ends[n][1], 5), n + 1);
        }
        Check.due("8", x.count(5), 8);
        PaperTrail y = Check.land("c70-011-131-361-121-141-151-231-341-351-021", 0, 1, 3, 6);
        for (int n = 0; n < 8; n++) {
            y.lure(ends[n][0], ends[n][1], 5);
        }
        Check.refused(y, "a ninth", () -> y.lure(0, 2, 1), PaperTrail.FULL, 0);
    }

    private static void paper() {
        PaperTrail x = star("9");
        Check.due("3 PATHS of 1", x.paper(), 3);
        x.lure(1, 0, 5);
        Check.due("5 more, not twice", x.paper(), 8);
        x.lure(1, 5, 1);
        Check.due("1 more", x.paper(), 9);
        x.wind(127);
        Check.due("in the WIND", x.paper(), 9);
    }

    private static void windBlows() {
        PaperTrail x = star("0h");
        Check.due("there is no CHECK", x.call(1), 0);
        x.wind(1 << 1);
        Check.due("there is one", x.call(1), 1);
        Check.due("not on the next PLACE", x.call(2), 0);
        Check.tells(x, "so it casts about", x.comes(0, 1), 1, 3);
        x.wind(1 << 2 | 1 << 4 | 1 << 5);
        Check.tells(x, "PLACES off THE TRAIL are nothing to it", x.hound(0, 2), 1, 0);
    }

    private static void atStart() {
        for (int head = 0; head <= 9; head++) {
            PaperTrail x = star(head + "hqst");
            for (int i = 0; i < 4; i++) {
                Check.due("HOUND " + i, x.comes(i, 0), head);
            }
        }
    }

    private static void checkThere() {
        PaperTrail x = star("0hl");
        for (int k = 0; k < 4; k++) {
            Check.due("no CHECK at " + k, x.call(k), 0);
        }
        x.lure(1, 4, 1);
        Check.due("FALSE ends, even greater ones", x.call(1), 1);
        Check.tells(x, "a CHECK for the LEADER", x.hound(1, 2), 1, 1);
        x.off(0);
        x.wind(1);
        Check.due("WIND at the START", x.call(0), 2);
        x.wind(1 << 6);
        Check.due("the INN is none", x.call(3), 0);
        Check.tells(x, "nor for the LEADER", x.hound(1, 2), 1, 0);
        x.wind(1 << 3);
        Check.due("both at once is one CHECK", x.lure(3, 1, 1) * 0 + x.mark(1, 4), 1);
    }

    private static void goesLesser() {
        PaperTrail x = star("0hqs");
        x.lure(1, 5, 4);
        x.lure(1, 4, 3);
        Check.tells(x, "none lesser", x.hound(0, 2), 1, 0);
        x.lure(1, 2, 2);
        x.lure(1, 0, 1);
        Check.tells(x, "both lesser ones", x.hound(0, 2), 1, 6);
        Check.due("they are gone", x.gone(0), 4 | 8);
        Check.tells(x, "a QUICK one, too", x.hound(1, 2), 1, 6);
        // the number just below, and just above the next PLACE's
        PaperTrail y = star("0h");
        y.lure(1, 2, 1);
        Check.due("2 is lesser than 3", y.gone(0), 1);
        PaperTrail z = star("0h");
        z.lure(1, 4, 1);
        Check.due("4 is not", z.gone(0), 0);
    }

    private static void casterGreater() {
        PaperTrail x = star("0a");
        x.lure(1, 0, 1);
        x.lure(1, 2, 2);
        Check.tells(x, "none greater", x.hound(0, 2), 1, 0);
        x.lure(1, 4, 3);
        x.lure(1, 5, 4);
        Check.tells(x, "both greater ones", x.hound(0, 2), 1, 14);
        Check.due("they are gone", x.gone(0), 4 | 8);
        PaperTrail y = star("0a");
        y.lure(1, 4, 1);
        Check.due("4 is greater than 3", y.gone(0), 1);
        PaperTrail z = star("0a");
        z.lure(1, 2, 1);
        Check.due("2 is not", z.gone(0), 0);
    }

    private static void windAll() {
        PaperTrail x = star("0haq");
        x.lure(1, 0, 1);
        x.lure(1, 2, 2);
        x.lure(1, 4, 3);
        x.lure(1, 5, 4);
        x.wind(1 << 1);
        for (int i = 0; i < 3; i++) {
            Check.tells(x, "all of 20, and 2", x.hound(i, 2), 1, 22);
            Check.due("all are gone", x.gone(i), 15);
        }
        x.wind(1);
        Check.tells(x, "WIND elsewhere: lesser ones, and 2", x.hound(0, 2), 1, 8);
        Check.tells(x, "WIND elsewhere: greater ones, and 2", x.hound(1, 2), 1, 16);
    }

    private static void twice() {
        for (int minutes = 1; minutes <= 5; minutes++) {
            PaperTrail x = star("0hqst");
            x.lure(1, 0, minutes);
            Check.tells(x, "a HOUND", x.comes(0, 1), 1, 1 + 2 * minutes);
            Check.tells(x, "a QUICK one is no quicker", x.comes(1, 1), 1, 1 + 2 * minutes);
            PaperTrail y = star("0t");
            y.lure(1, 0, minutes);
            Check.tells(y, "a TIRED one no slower", y.comes(0, 1), 3, 3 + 2 * minutes);
        }
    }

    private static void castsAbout() {
        for (char letter : new char[] {'h', 'q', 's', 'a', 't'}) {
            PaperTrail x = star("0" + letter);
            x.wind(1);
            Check.tells(x, "2 minutes", x.hound(0, 2), 1, 2);
            x.wind(1 | 1 << 1 | 1 << 3);
            Check.tells(x, "2 minutes at each", x.hound(0, 2), 1, 6);
            x.wind(127);
            Check.tells(x, "none at the INN", x.hound(0, 2), 1, 6);
        }
    }

    private static void leaderWaits() {
        PaperTrail x = star("0l");
        Check.tells(x, "no CHECK", x.comes(0, 1), 1, 1);
        x.lure(1, 0, 5);
        Check.tells(x, "1 minute instead of 10", x.comes(0, 1), 1, 2);
        x.lure(1, 2, 5);
        x.lure(1, 4, 5);
        Check.tells(x, "1 minute instead of all", x.comes(0, 1), 1, 2);
        x.wind(1 << 1);
        Check.tells(x, "1 minute instead of the WIND's, too", x.comes(0, 1), 1, 2);
        Check.due("it goes none", x.gone(0), 0);
        x.off(0);
        Check.tells(x, "WIND alone", x.comes(0, 1), 1, 2);
        x.wind(0);
        x.lure(1, 4, 5);
        Check.tells(x, "even where others go right", x.comes(0, 1), 1, 2);
        // a LEADER does not listen: at 1 the HOUND called by then
        PaperTrail y = Check.land("c70hl" + STAR, 0, 1, 3, 6);
        y.lure(1, 4, 5);
        Check.tells(y, "it waits though called", y.comes(1, 1), 1, 2);
    }

    private static void slowCalled() {
        // the HOUND comes to 1 in minute m and leaves it in m + 2, the SLOW one comes in 2 m
        int[] called = {0, 0, 1, 1};
        for (int m = 1; m <= 3; m++) {
            PaperTrail x = Check.land("c30hs-01" + m + "-121", 0, 1, 2);
            x.lure(1, 0, 1);
            Check.due("called in " + (m + 2) + ", there in " + 2 * m, x.mark(1, 2), called[m]);
            Check.tells(x, "leaves", x.comes(1, 1), 2 * m, 2 * m + (called[m] == 1 ? 0 : 2));
            Check.due("goes", x.gone(1), 1 - called[m]);
        }
        // the TIRED one comes in 2 m + 1: in the minute of the CALL, if m is 1
        PaperTrail y = Check.land("c30ht-011-121", 0, 1, 2);
        y.lure(1, 0, 1);
        Check.due("a TIRED one, just in time", y.mark(1, 2), 1);
        PaperTrail z = Check.land("c30ht-011-121", 0, 1, 2);
        z.lure(1, 0, 2);
        Check.due("a TIRED one, too early", z.mark(1, 2), 0);
        PaperTrail w = star("0s");
        w.lure(1, 4, 1);
        Check.due("it does not call itself", w.mark(0, 2), 0);
        PaperTrail v = star("0hs");
        v.wind(1 << 1);
        v.lure(1, 0, 5);
        Check.tells(v, "called from another CHECK is not called", v.hound(1, 2), 1, 12);
    }

    private static void callsLeaving() {
        PaperTrail x = Check.land("c30sq-014-121", 0, 1, 2);
        x.lure(1, 0, 3);
        // the QUICK one comes in 2, leaves in 8; the SLOW one comes in 8
        Check.due("the CALL is as it leaves", x.mark(0, 2), 1);
        PaperTrail y = Check.land("c30sq-014-121", 0, 1, 2);
        y.lure(1, 0, 4);
        Check.due("not as it comes", y.mark(0, 2), 0);
        PaperTrail z = Check.land("c30sl-012-121", 0, 1, 2);
        z.lure(1, 0, 5);
        Check.due("a LEADER calls, too", z.mark(0, 2), 1);
        PaperTrail w = Check.land("c30st-011-121", 0, 1, 2);
        w.lure(1, 0, 5);
        Check.due("a SLOW one calls, too, but too late", w.mark(1, 2), 0);
    }

    private static void goesOn() {
        PaperTrail x = star("4q");
        x.lure(1, 0, 3);
        Check.tells(x, "at 1", x.comes(0, 1), 5, 11);
        Check.tells(x, "at 3", x.comes(0, 2), 12, 12);
        Check.tells(x, "at the INN", x.comes(0, 3), 13, NONE);
    }

    private static void comeInOrder() {
        // all at the START in minute 0: who has a lesser number comes ahead
        PaperTrail x = Check.land("c30hs-011-121-021", 0, 1, 2);
        x.lure(0, 2, 5);
        Check.due("0 calls, then 1 comes", x.mark(1, 2), 1);
        PaperTrail y = Check.land("c30sh-011-121-021", 0, 1, 2);
        y.lure(0, 2, 5);
        Check.due("0 comes, 1 has not called yet", y.mark(0, 2), 0);
        PaperTrail z = Check.land("c30ssss-011-121-021", 0, 1, 2);
        z.lure(0, 2, 5);
        for (int i = 0; i < 4; i++) {
            Check.due("SLOW one " + i, z.mark(i, 2), i == 0 ? 0 : 1);
        }
        // by minutes ahead of numbers: the CASTER (2) is at 1 in 1, the SLOW ones in 2 and 3
        PaperTrail w = Check.land("c30tsa-011-121", 0, 1, 2);
        w.lure(1, 0, 5);
        Check.due("the TIRED one is called", w.mark(0, 2), 1);
        Check.due("the SLOW one is called", w.mark(1, 2), 1);
        // a later one who leaves at once is not heard by one who came ahead, though in the same minute
        PaperTrail v = Check.land("c40sa-022-211-131-011", 0, 2, 1, 3);
        v.lure(0, 1, 1);
        Check.due("the CASTER calls in 0, behind", v.call(0), 2);
        Check.due("the SLOW one had come", v.mark(0, 2), 0);
    }

    private static void caught() {
        PaperTrail x = star("0h");
        Check.tells(x, "behind the START", x.caught(), 1, 0);
        x.head(1);
        Check.none(x, "one minute later at each", () -> x.caught());
        PaperTrail y = Check.land("c42q-011-123-235", 0, 1, 2, 3);
        // hares 1 4 9, it 3 5 8
        Check.tells(y, "at the INN in 8", y.caught(), 3, 0);
        y.head(3);
        Check.tells(y, "in 9, as they are", y.caught(), 3, 0);
        y.head(4);
        Check.none(y, "in 10", () -> y.caught());
    }

    private static void atRandom() {
        PaperTrail x = star("0h");
        int[] ends = {0, 2, 4, 5};
        for (int n = 0; n <= 4; n++) {
            Check.fraction(x, "THE TRAIL first of " + (n + 1), x.chance(0, 3), 1, n + 1);
            if (n > 0) {
                Check.fraction(x, "THE TRAIL not last of " + (n + 1), x.chance(0, 2 + 2 * n), n, n + 1);
            }
            if (n < 4) {
                x.lure(1, ends[n], 1);
            }
        }
    }

    private static void randomGone() {
        PaperTrail x = star("0h");
        x.lure(1, 0, 1);
        x.lure(1, 5, 5);
        // none 2 of 6, the short one alone 1, the long one alone 1, both 2
        Check.fraction(x, "none", x.chance(0, 4), 1, 3);
        Check.fraction(x, "or the short one, in 2 more", x.chance(0, 5), 1, 2);
        Check.fraction(x, "not yet the long one", x.chance(0, 12), 1, 2);
        Check.fraction(x, "or the long one, in 10 more", x.chance(0, 13), 2, 3);
        Check.fraction(x, "not yet both", x.chance(0, 14), 2, 3);
        Check.fraction(x, "or both, in 12 more", x.chance(0, 15), 1, 1);
        Check.fraction(x, "the mean", x.mid(0), 9, 1);
    }

    private static void randomWind() {
        PaperTrail x = star("0h");
        x.wind(1 << 1);
        Check.fraction(x, "WIND alone, too soon", x.chance(0, 4), 0, 1);
        Check.fraction(x, "WIND alone", x.chance(0, 5), 1, 1);
        x.lure(1, 0, 1);
        Check.fraction(x, "not all of them are gone", x.chance(0, 5), 1, 2);
        Check.fraction(x, "2 minutes more", x.chance(0, 7), 1, 1);
        Check.fraction(x, "the mean", x.mid(0), 6, 1);
        x.wind(127);
        Check.fraction(x, "at each but the INN", x.mid(0), 10, 1);
    }

    private static void lots() {
        PaperTrail x = star("0h");
        x.lure(1, 0, 1);
        x.lure(1, 2, 2);
        x.lure(1, 4, 4);
        x.lure(1, 5, 5);
        // of 1: 48271, 182605794, 1291394886, 1914720637; told by hand
        long first = 48271, second = first * 48271 % 2147483647L;
        Check.due("the second number", second, 182605794);
        long third = second * 48271 % 2147483647L, fourth = third * 48271 % 2147483647L;
        Check.due("the third number", third, 1291394886);
        Check.due("the fourth number", fourth, 1914720637);
        Check.tells(x, "odd, even, even, odd", x.run(1), 0, 3 + 2 + 10);
    }

    private static void seeds() {
        PaperTrail x = star("0h");
        x.lure(1, 0, 5);
        Check.bad(x, "0", () -> x.run(0));
        Check.tells(x, "1: 48271", x.run(1), 0, 13);
        Check.tells(x, "2147483646: 2147435376", x.run(2147483646), 0, 3);
        Check.tells(x, "2147483645: 2147387105", x.run(2147483645), 0, 13);
        Check.bad(x, "2147483647", () -> x.run(2147483647));
    }
}
