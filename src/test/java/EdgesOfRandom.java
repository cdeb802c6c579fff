/** Promises 37 to 41 at their edges: chances, means, runs by LOTS, which KINDS fit, which FALSE ends are gone. */
final class EdgesOfRandom {
    private static final int NONE = PaperTrail.NONE;
    private static final int MIN = Integer.MIN_VALUE, MAX = Integer.MAX_VALUE;
    private static final long MODULUS = 2147483647L;

    private EdgesOfRandom() { }

    static void all() {
        Edges.says(37, "Chances that a HOUND at RANDOM", EdgesOfRandom::chanceAtRandom);
        Edges.says(37, "(at its pace, no CALLS", EdgesOfRandom::chancePace);
        Edges.says(37, "a LEADER tries like others)", EdgesOfRandom::chanceLeader);
        Edges.says(37, "is at the INN by a minute (0 .. 999): 1", EdgesOfRandom::chanceByMinute);
        Edges.says(37, "BAD", EdgesOfRandom::chanceBad);
        Edges.says(37, "STATE", EdgesOfRandom::chanceState);
        Edges.says(38, "The mean minute in which it is there so: 1", EdgesOfRandom::midMinute);
        Edges.says(38, "BAD", EdgesOfRandom::midBad);
        Edges.says(38, "STATE", EdgesOfRandom::midState);
        Edges.says(39, "A run by LOTS of a seed, all HOUNDS at RANDOM", EdgesOfRandom::runByLots);
        Edges.says(39, "for each HOUND, by numbers", EdgesOfRandom::runByHounds);
        Edges.says(39, "at each CHECK, by places", EdgesOfRandom::runByPlaces);
        Edges.says(39, "for each FALSE end there (towards lesser PLACES first) a number", EdgesOfRandom::runByEnds);
        Edges.says(39, "it is gone, if it is odd", EdgesOfRandom::runOdd);
        Edges.says(39, "Who is first at the INN (the least of alike ones)", EdgesOfRandom::runFirst);
        Edges.says(39, "when by asked()", EdgesOfRandom::runWhen);
        Edges.says(39, "NONE: no HOUNDS", EdgesOfRandom::runNone);
        Edges.says(39, "BAD", EdgesOfRandom::runBad);
        Edges.says(39, "STATE", EdgesOfRandom::runState);
        Edges.says(40, "Of which KINDS (bits) a HOUND, alone, can be so that it comes to each place of THE TRAIL"
            + " in the minutes of a ROW", EdgesOfRandom::kindsAlone);
        Edges.says(40, "(NONE: not seen)", EdgesOfRandom::kindsNotSeen);
        Edges.says(40, "BAD", EdgesOfRandom::kindsBad);
        Edges.says(40, "STATE", EdgesOfRandom::kindsState);
        Edges.says(40, "NOTHING", EdgesOfRandom::kindsNothing);
        Edges.says(40, "SIZE: not as many as places", EdgesOfRandom::kindsSize);
        Edges.says(40, "UNLIKE: below 0, not NONE", EdgesOfRandom::kindsUnlike);
        Edges.says(40, "(In this order.)", EdgesOfRandom::kindsOrder);
        Edges.says(41, "Which FALSE ends (bits, as they were laid) a HOUND goes", EdgesOfRandom::goneBits);
        Edges.says(41, "BAD", EdgesOfRandom::goneBad);
        Edges.says(41, "STATE", EdgesOfRandom::goneState);
    }

    private static void chanceAtRandom() {
        PaperTrail x = Check.land("c50h-011-121-131-141-021", 0, 1, 4);
        Check.fraction(x, "no CHECK, one minute too soon", x.chance(0, 1), 0, 1);
        Check.fraction(x, "no CHECK, just then", x.chance(0, 2), 1, 1);
        x.lure(1, 0, 1);
        Check.fraction(x, "one: it comes ahead, or it does not", x.chance(0, 2), 1, 2);
        x.lure(1, 2, 1);
        Check.fraction(x, "two: none ahead", x.chance(0, 2), 1, 3);
        Check.fraction(x, "two: one at most ahead", x.chance(0, 4), 2, 3);
        x.lure(1, 3, 1);
        Check.fraction(x, "three: none ahead", x.chance(0, 2), 1, 4);
        Check.fraction(x, "three: one at most ahead", x.chance(0, 4), 1, 2);
        Check.fraction(x, "three: two at most ahead", x.chance(0, 6), 3, 4);
        Check.fraction(x, "three: all ahead", x.chance(0, 8), 1, 1);
        x.lure(0, 2, 1);
        Check.fraction(x, "one at the START, too: none ahead", x.chance(0, 2), 1, 8);
        Check.fraction(x, "one at most ahead: 1 of 4 and 1 of 8", x.chance(0, 4), 3, 8);
        chanceAtStart();
        chanceOfFive();
        PaperTrail y = Edges.longRun("0h");
        Edges.layEnds(y, 8, 5);
        // 2 at 1, 1 at 2, 2 at 3, 1 at 4, 1 at 5, 1 at the START: 3 3 2 2 2 2 = 144 times alike
        Check.fraction(y, "eight: none ahead", y.chance(0, 54), 1, 144);
        Check.fraction(y, "eight: not all ahead", y.chance(0, 133), 143, 144);
        Check.fraction(y, "eight: all ahead", y.chance(0, 134), 1, 1);
    }

    private static void chanceAtStart() {
        PaperTrail x = Check.land("c40h-011-131-021-031", 0, 1, 3);
        x.lure(0, 2, 1);
        x.lure(0, 3, 1);
        Check.fraction(x, "two at the START: none ahead", x.chance(0, 2), 1, 3);
        Check.fraction(x, "one at most ahead", x.chance(0, 4), 2, 3);
        Check.fraction(x, "both ahead", x.chance(0, 6), 1, 1);
    }

    /** No PLACE can have more than five. */
    private static void chanceOfFive() {
        PaperTrail x = Check.land("c70h-011-121-131-141-151-161", 0, 1, 6);
        int[] ends = {0, 2, 3, 4, 5};
        for (int n = 0; n < 5; n++) {
            x.lure(1, ends[n], 1 + n % 2);
        }
        // three of 2 minutes, two of 4: with none ahead 120 of 720 orders, with just one, of 2 minutes, 24 each
        Check.fraction(x, "none ahead", x.chance(0, 2), 1, 6);
        Check.fraction(x, "one of 2 ahead", x.chance(0, 4), 4, 15);
        Check.fraction(x, "all but the last", x.chance(0, 15), 5, 6);
        Check.fraction(x, "all ahead", x.chance(0, 16), 1, 1);
    }

    private static void chancePace() {
        int[] minutes = {9, 5, 18, 9, 5, 19};
        for (int kind = 0; kind < 6; kind++) {
            PaperTrail x = Check.land("c39" + Model.LETTERS.charAt(kind) + "-019-129", 0, 1, 2);
            x.lure(1, 0, 5);
            int least = 9 + 2 * minutes[kind];
            Check.fraction(x, kind + " too soon", x.chance(0, least - 1), 0, 1);
            Check.fraction(x, kind + " in time", x.chance(0, least), 1, 2);
            Check.fraction(x, kind + " not 10 later", x.chance(0, least + 9), 1, 2);
            Check.fraction(x, kind + " 10 later", x.chance(0, least + 10), 1, 1);
        }
        // not at RANDOM the SLOW one would be called
        PaperTrail y = Check.land("c30as-011-121", 0, 1, 2);
        y.lure(1, 0, 5);
        Check.tells(y, "called", y.hound(1, 2), 1, 0);
        Check.fraction(y, "no CALLS", y.chance(1, 4), 1, 2);
    }

    private static void chanceLeader() {
        PaperTrail x = Check.land("c30l-011-121-021", 0, 1, 2);
        x.lure(1, 0, 2);
        Check.fraction(x, "it does not wait", x.chance(0, 2), 1, 2);
        Check.fraction(x, "it goes the FALSE end", x.chance(0, 5), 1, 2);
        Check.fraction(x, "it goes the FALSE end", x.chance(0, 6), 1, 1);
        x.wind(2);
        Check.fraction(x, "it casts about", x.chance(0, 3), 0, 1);
        Check.fraction(x, "it casts about", x.chance(0, 4), 1, 2);
    }

    private static void chanceByMinute() {
        PaperTrail x = Edges.rich();
        Check.fraction(x, "the first minute", x.chance(0, 0), 0, 1);
        Check.fraction(x, "the last minute", x.chance(0, 999), 1, 1);
        Check.due("asked() is not told by it", x.asked(), 31337);
        PaperTrail y = Check.land("c20q-011", 0, 1);
        Check.fraction(y, "minute 0", y.chance(0, 0), 0, 1);
        Check.fraction(y, "minute 1", y.chance(0, 1), 1, 1);
        PaperTrail z = Edges.longRun("9t");
        Edges.layEnds(z, 8, 5);
        z.wind(127);
        Check.fraction(z, "the latest: 9, 6 times 19 and 2, 80", z.chance(0, 214), 143, 144);
        Check.fraction(z, "the latest", z.chance(0, 215), 1, 1);
    }

    private static void chanceBad() {
        PaperTrail x = Edges.rich();
        PaperTrail y = Check.land("c20h");
        for (int i : Edges.outside(4)) {
            Check.bad(x, "chance(" + i + ", 5)", () -> x.chance(i, 5));
        }
        for (int minute : Edges.outside(1000)) {
            Check.bad(x, "chance(0, " + minute + ")", () -> x.chance(0, minute));
            Check.bad(y, "BAD ahead of STATE, " + minute, () -> y.chance(0, minute));
        }
        Check.bad(y, "BAD (HOUND) ahead of STATE", () -> y.chance(1, 5));
    }

    private static void chanceState() {
        PaperTrail x = Check.land("c20h-011");
        Check.state(x, "no TRAIL", () -> x.chance(0, 0));
        Check.state(x, "no TRAIL", () -> x.chance(0, 999));
    }

    private static void midMinute() {
        PaperTrail x = Check.land("c20h-011", 0, 1);
        Check.fraction(x, "no CHECK", x.mid(0), 1, 1);
        PaperTrail y = Check.land("c50hqsl-011-121-131-141-021", 0, 1, 4);
        y.lure(1, 0, 1);
        Check.fraction(y, "0 or 2", y.mid(0), 3, 1);
        y.lure(1, 2, 2);
        Check.fraction(y, "half of 2, half of 4", y.mid(0), 5, 1);
        y.wind(2);
        Check.fraction(y, "2 more in the WIND", y.mid(0), 7, 1);
        Check.fraction(y, "a QUICK one by PATHS of 1", y.mid(1), 7, 1);
        Check.fraction(y, "a SLOW one", y.mid(2), 9, 1);
        Check.fraction(y, "a LEADER does not wait", y.mid(3), 7, 1);
        y.wind(16);
        Check.fraction(y, "none at the INN", y.mid(0), 5, 1);
        PaperTrail z = Edges.longRun("9t");
        Edges.layEnds(z, 8, 5);
        z.wind(127);
        Check.fraction(z, "9, 6 times 19 and 2, half of 80", z.mid(0), 175, 1);
        Check.due("asked() is not told by it", z.asked(), 0);
    }

    private static void midBad() {
        PaperTrail x = Edges.rich();
        for (int i : Edges.outside(4)) {
            Check.bad(x, "mid(" + i + ")", () -> x.mid(i));
        }
        PaperTrail y = Check.land("c20h");
        Check.bad(y, "BAD ahead of STATE", () -> y.mid(1));
        PaperTrail z = Check.land("c20-011", 0, 1);
        Check.bad(z, "without HOUNDS", () -> z.mid(0));
    }

    private static void midState() {
        PaperTrail x = Check.land("c20h-011");
        Check.state(x, "no TRAIL", () -> x.mid(0));
    }

    /** The least seed whose first numbers are odd or even just so. */
    private static int seedFor(int... odd) {
        for (int seed = 1; ; seed++) {
            long lot = seed;
            int fits = 0;
            while (fits < odd.length && (lot = lot * 48271 % MODULUS) % 2 == odd[fits]) {
                fits++;
            }
            if (fits == odd.length) {
                return seed;
            }
        }
    }

    private static void runByLots() {
        PaperTrail x = Edges.longRun("0a");
        Edges.layEnds(x, 8, 1);
        for (int seed : new int[] {1, 2, 16807, 1 << 30, MAX - 2, MAX - 1}) {
            java.math.BigInteger lot = java.math.BigInteger.valueOf(seed);
            int minute = 54;
            for (int n = 0; n < 8; n++) {
                lot = lot.multiply(java.math.BigInteger.valueOf(48271)).mod(java.math.BigInteger.valueOf(MODULUS));
                minute += lot.testBit(0) ? 2 : 0;
            }
            Check.tells(x, "run(" + seed + ")", x.run(seed), 0, minute);
            Check.tells(x, "run(" + seed + ") again", x.run(seed), 0, minute);
        }
        PaperTrail y = Check.land("c30lst-011-121", 0, 1, 2);
        y.lure(1, 0, 5);
        Check.tells(y, "a LEADER tries like others", y.run(seedFor(1, 1, 1)), 0, 12);
        Check.tells(y, "no CALLS", y.run(seedFor(1, 0, 1)), 1, 4);
    }

    private static void runByHounds() {
        PaperTrail x = Check.land("c30hhhh-011-121", 0, 1, 2);
        x.lure(1, 0, 5);
        Check.tells(x, "the first number is HOUND 0's", x.run(seedFor(0, 1, 1, 1)), 0, 2);
        Check.tells(x, "the second one HOUND 1's", x.run(seedFor(1, 0, 1, 1)), 1, 2);
        Check.tells(x, "the third one HOUND 2's", x.run(seedFor(1, 1, 0, 1)), 2, 2);
        Check.tells(x, "the fourth one HOUND 3's", x.run(seedFor(1, 1, 1, 0)), 3, 2);
        // all numbers of a HOUND ahead of the next one's
        PaperTrail y = Check.land("c30hh-011-121-021", 0, 1, 2);
        y.lure(0, 2, 5);
        y.lure(1, 0, 5);
        Check.tells(y, "both of HOUND 0", y.run(seedFor(1, 1, 0, 0)), 1, 2);
        Check.tells(y, "both of HOUND 1", y.run(seedFor(0, 0, 1, 1)), 0, 2);
    }

    private static void runByPlaces() {
        // places of THE TRAIL: PLACES 0, 2, 1
        PaperTrail x = Check.land("c40h-021-211-131-011", 0, 2, 1, 3);
        x.lure(1, 0, 1);
        x.lure(2, 0, 2);
        x.lure(0, 1, 4);
        Check.due("three are laid", x.count(5), 3);
        Check.tells(x, "the first number: at the START", x.run(seedFor(1, 0, 0)), 0, 11);
        Check.tells(x, "the second one: at PLACE 2", x.run(seedFor(0, 1, 0)), 0, 7);
        Check.tells(x, "the third one: at PLACE 1", x.run(seedFor(0, 0, 1)), 0, 5);
        Check.tells(x, "none is odd", x.run(seedFor(0, 0, 0)), 0, 3);
        Check.tells(x, "all are odd", x.run(seedFor(1, 1, 1)), 0, 17);
    }

    private static void runByEnds() {
        PaperTrail x = Check.land("c50h-011-121-131-141", 0, 1, 4);
        x.lure(1, 3, 5);
        x.lure(1, 0, 1);
        x.lure(1, 2, 3);
        Check.tells(x, "the first number: towards 0", x.run(seedFor(1, 0, 0)), 0, 4);
        Check.tells(x, "the second one: towards 2", x.run(seedFor(0, 1, 0)), 0, 8);
        Check.tells(x, "the third one: towards 3", x.run(seedFor(0, 0, 1)), 0, 12);
        x.wind(1);
        Check.tells(x, "none for the WIND alone", x.run(seedFor(1, 0, 0)), 0, 6);
        x.wind(2);
        Check.tells(x, "none for the WIND there", x.run(seedFor(0, 0, 1)), 0, 14);
    }

    private static void runOdd() {
        PaperTrail x = Check.land("c30h-011-121", 0, 1, 2);
        x.lure(1, 0, 5);
        Check.tells(x, "48271 is odd", x.run(1), 0, 12);
        Check.tells(x, "96542 is even", x.run(2), 0, 2);
        Check.tells(x, "2147435376, of the last seed, is even", x.run(MAX - 1), 0, 2);
    }

    private static void runFirst() {
        PaperTrail x = Check.land("c20shhq-012", 0, 1);
        Check.tells(x, "the QUICK one", x.run(1), 3, 1);
        PaperTrail y = Check.land("c20shhh-012", 0, 1);
        Check.tells(y, "the least of alike ones", y.run(1), 1, 2);
        PaperTrail z = Check.land("c20hhhh-012", 0, 1);
        Check.tells(z, "the least of all", z.run(MAX - 1), 0, 2);
        PaperTrail w = Check.land("c30qh-012-122", 0, 1, 2);
        w.lure(1, 0, 1);
        Check.tells(w, "alike by what it lost", w.run(seedFor(1, 0)), 0, 4);
    }

    private static void runWhen() {
        PaperTrail x = Check.land("c29h-011", 0, 1);
        Check.tells(x, "by the HEAD", x.run(1), 0, 10);
        x.head(0);
        Check.tells(x, "by another HEAD", x.run(1), 0, 1);
        x.wind(3);
        Check.tells(x, "2 in the WIND, none at the INN", x.run(1), 0, 3);
        PaperTrail y = Edges.longRun("9t");
        y.wind(127);
        Check.tells(y, "9, 6 times 19 and 2", y.run(1), 0, 135);
    }

    private static void runNone() {
        PaperTrail x = Check.land("c20-011", 0, 1);
        Check.none(x, "run(1)", () -> x.run(1));
        Check.none(x, "run(MAX - 1)", () -> x.run(MAX - 1));
        Check.bad(x, "BAD ahead of NONE", () -> x.run(0));
    }

    private static void runBad() {
        PaperTrail x = Edges.rich();
        PaperTrail y = Check.land("c20");
        for (int seed : new int[] {0, -1, MIN, MAX}) {
            Check.bad(x, "run(" + seed + ")", () -> x.run(seed));
            Check.bad(y, "BAD ahead of STATE, " + seed, () -> y.run(seed));
        }
        Check.due("the first seed", x.run(1) >= 0 ? 1 : 0, 1);
        Check.due("the last seed", x.run(MAX - 1) >= 0 ? 1 : 0, 1);
    }

    private static void runState() {
        PaperTrail x = Check.land("c20h-011");
        Check.state(x, "no TRAIL", () -> x.run(1));
        PaperTrail y = Check.land("c20-011");
        Check.state(y, "STATE ahead of NONE", () -> y.run(1));
        PaperTrail z = new PaperTrail();
        Check.state(z, "no PLACES", () -> z.run(1));
    }

    private static void kindsAre(PaperTrail x, int want, int... row) {
        Check.fill(x, 1, row);
        Check.due("kinds of " + java.util.Arrays.toString(row), x.kinds(1), want);
    }

    private static void kindsAlone() {
        PaperTrail x = Check.land("c20s-013", 0, 1);
        kindsAre(x, 1 | 8, 0, 3);
        kindsAre(x, 2 | 16, 0, 2);
        kindsAre(x, 4, 0, 6);
        kindsAre(x, 32, 0, 7);
        for (int minute : new int[] {0, 1, 4, 5, 8, MAX}) {
            kindsAre(x, 0, 0, minute);
        }
        kindsAre(x, 0, 1, 3);
        x.head(1);
        kindsAre(x, 1 | 8, 1, 4);
        // by PATHS of 1 a QUICK one is no quicker
        PaperTrail y = Check.land("c30hhhh-011-121", 0, 1, 2);
        kindsAre(y, 1 | 2 | 8 | 16, 0, 1, 2);
        y.lure(1, 0, 1);
        kindsAre(y, 1 | 2, 0, 1, 4);
        kindsAre(y, 8, 0, 1, 2);
        kindsAre(y, 16, 0, 1, 3);
        kindsAre(y, 4, 0, 2, 6);
        kindsAre(y, 0, 0, 2, 4);
        kindsAre(y, 32, 0, 3, 8);
        PaperTrail z = Check.land("c20-011", 0, 1);
        kindsAre(z, 1 | 2 | 8 | 16, 0, 1);
        Check.due("asked() is not told by it", z.asked(), 0);
    }

    private static void kindsNotSeen() {
        PaperTrail x = Check.land("c20s-013", 0, 1);
        kindsAre(x, 63, NONE, NONE);
        kindsAre(x, 63, 0, NONE);
        kindsAre(x, 0, 1, NONE);
        kindsAre(x, 4, NONE, 6);
        kindsAre(x, 0, NONE, 0);
    }

    private static void kindsBad() {
        PaperTrail x = Edges.rich();
        for (int r : Edges.outside(6)) {
            Check.bad(x, "kinds(" + r + ")", () -> x.kinds(r));
        }
    }

    private static void kindsState() {
        PaperTrail x = Check.land("c20h-011");
        Check.fill(x, 1, 0, 1);
        Check.state(x, "no TRAIL", () -> x.kinds(1));
    }

    private static void kindsNothing() {
        PaperTrail x = Edges.rich();
        Check.found(x, "never made", () -> x.kinds(4), Check.NOTHING);
        x.tear(3);
        Check.found(x, "torn", () -> x.kinds(3), Check.NOTHING);
    }

    private static void kindsSize() {
        PaperTrail x = Edges.rich();
        for (int n : new int[] {0, 1, 5, 7, 40}) {
            x.row(4, n);
            Check.found(x, n + " of 6", () -> x.kinds(4), Check.SIZE);
        }
        x.row(4, 6);
        Check.due("6 of 6", x.kinds(4), 0);
    }

    private static void kindsUnlike() {
        PaperTrail x = Check.land("c20h-013", 0, 1);
        for (int v : new int[] {-1, -8, -10, MIN}) {
            Check.fill(x, 1, v, 3);
            Check.found(x, "the first is " + v, () -> x.kinds(1), Check.UNLIKE);
            Check.fill(x, 1, 0, v);
            Check.found(x, "the last is " + v, () -> x.kinds(1), Check.UNLIKE);
            Check.fill(x, 1, 7, v);
            Check.found(x, "even if none fits, " + v, () -> x.kinds(1), Check.UNLIKE);
        }
        kindsAre(x, 1 | 8, 0, 3);
        kindsAre(x, 1 | 8, -9, 3);
        Check.fill(x, 1, 0, 3, -1);
        x.row(1, 2);
        Check.due("what was behind its end is nothing to a ROW", x.kinds(1), 0);
    }

    private static void kindsOrder() {
        PaperTrail x = Check.land("c20h-011");
        Check.bad(x, "BAD ahead of STATE", () -> x.kinds(6));
        Check.state(x, "STATE ahead of NOTHING", () -> x.kinds(5));
        x.row(1, 1);
        Check.state(x, "STATE ahead of SIZE", () -> x.kinds(1));
        Check.fill(x, 0, 0, 1);
        x.trail(0);
        Check.bad(x, "BAD", () -> x.kinds(-1));
        Check.found(x, "NOTHING", () -> x.kinds(5), Check.NOTHING);
        Check.fill(x, 1, -1);
        Check.found(x, "SIZE ahead of UNLIKE", () -> x.kinds(1), Check.SIZE);
        Check.fill(x, 1, -1, -1, -1);
        Check.found(x, "SIZE ahead of UNLIKE", () -> x.kinds(1), Check.SIZE);
    }

    private static void goneBits() {
        PaperTrail x = Edges.longRun("0hals");
        for (int i = 0; i < 4; i++) {
            Check.due("none are laid", x.gone(i), 0);
        }
        Edges.layEnds(x, 8, 1);
        Check.due("a HOUND: all but 1 towards 3, 0 towards 2", x.gone(0), 255 - 32 - 128);
        Check.due("a CASTER: just those", x.gone(1), 32 + 128);
        Check.due("a LEADER: none", x.gone(2), 0);
        Check.due("a SLOW one, called: none", x.gone(3), 0);
        x.wind(127);
        Check.due("all 8 in the WIND", x.gone(0), 255);
        Check.due("a CASTER, too", x.gone(1), 255);
        Check.due("a LEADER: none", x.gone(2), 0);
        Check.due("a SLOW one at the START, not called yet", x.gone(3), 128);
        x.off(7);
        Check.due("7 are left", x.gone(0), 127);
        x.off(0);
        Check.due("none are left", x.gone(0), 0);
        x.lure(5, 4, 1);
        Check.due("another one is the first", x.gone(0), 1);
        Check.due("asked() is not told by it", x.asked(), 0);
    }

    private static void goneBad() {
        PaperTrail x = Edges.rich();
        for (int i : Edges.outside(4)) {
            Check.bad(x, "gone(" + i + ")", () -> x.gone(i));
        }
        PaperTrail y = Check.land("c20h");
        Check.bad(y, "BAD ahead of STATE", () -> y.gone(1));
    }

    private static void goneState() {
        PaperTrail x = Check.land("c20h-011");
        Check.state(x, "no TRAIL", () -> x.gone(0));
    }
}
