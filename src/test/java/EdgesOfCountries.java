/** Promises 10 to 15 at their edges: FAULTS, countries, HOUNDS, marks, PATHS, the HEAD. */
final class EdgesOfCountries {
    private static final int NONE = PaperTrail.NONE;
    private static final String TWELVE = "-011-021-031-041-051-061-121-131-141-151-161-239";

    private EdgesOfCountries() { }

    static void all() {
        Edges.says(10, "A FAULT of a TEXT", EdgesOfCountries::faultOfText);
        Edges.says(10, "NONE: there is none", EdgesOfCountries::faultNone);
        Edges.says(10, "BAD", EdgesOfCountries::faultBad);
        Edges.says(10, "NOTHING", EdgesOfCountries::faultNothing);
        Edges.says(11, "A COUNTRY by a TEXT", EdgesOfCountries::countryByText);
        Edges.says(11, "(anew: no TRAIL", EdgesOfCountries::countryNoTrail);
        Edges.says(11, "FALSE ends", EdgesOfCountries::countryNoEnds);
        Edges.says(11, "WIND", EdgesOfCountries::countryNoWind);
        Edges.says(11, "kept COUNTRIES go", EdgesOfCountries::countryNoneKept);
        Edges.says(11, "how many PLACES", EdgesOfCountries::countryPlaces);
        Edges.says(11, "BAD", EdgesOfCountries::countryBad);
        Edges.says(11, "NOTHING", EdgesOfCountries::countryNothing);
        Edges.says(11, "STATE: a FAULT", EdgesOfCountries::countryState);
        Edges.says(11, "(STATE behind NOTHING.)", EdgesOfCountries::countryOrder);
        Edges.says(12, "Of a HOUND: 0 the KIND", EdgesOfCountries::houndKind);
        Edges.says(12, "1 the minute in which it comes to the INN (NONE: no TRAIL)", EdgesOfCountries::houndAtInn);
        Edges.says(12, "2 how many minutes it lost at CHECKS till then (0 without a TRAIL)", EdgesOfCountries::houndLost);
        Edges.says(12, "told by asked(): 1", EdgesOfCountries::houndTold);
        Edges.says(12, "BAD", EdgesOfCountries::houndBad);
        Edges.says(13, "What a HOUND that IS of a KIND tells (0 without a TRAIL)", EdgesOfCountries::markWithoutTrail);
        Edges.says(13, "a QUICK one (LEADER, too) how many MINUTES of PATHS it saves against a HOUND of KIND 0",
            EdgesOfCountries::markQuick);
        Edges.says(13, "a SLOW one (TIRED, too) at how many CHECKS it goes right by a CALL", EdgesOfCountries::markSlow);
        Edges.says(13, "a CASTER how many FALSE ends it goes", EdgesOfCountries::markCaster);
        Edges.says(13, "a LEADER how many minutes it waits in all", EdgesOfCountries::markLeader);
        Edges.says(13, "a TIRED one how many PATHS THE TRAIL has", EdgesOfCountries::markTired);
        Edges.says(13, "BAD: also KIND 0", EdgesOfCountries::markBad);
        Edges.says(13, "UNLIKE", EdgesOfCountries::markUnlike);
        Edges.says(14, "The MINUTES of a PATH between two PLACES", EdgesOfCountries::minutesBetween);
        Edges.says(14, "NONE: there is none", EdgesOfCountries::minutesNone);
        Edges.says(14, "BAD: also one alone", EdgesOfCountries::minutesBad);
        Edges.says(15, "The HEAD is v (0 .. 9): what it was", EdgesOfCountries::headIs);
        Edges.says(15, "BAD", EdgesOfCountries::headBad);
        Edges.says(15, "STATE: no PLACES", EdgesOfCountries::headState);
    }

    private static void faultOfText() {
        PaperTrail x = Edges.rich();
        Check.write(x, 3, "d20");
        Check.due("the first place", x.fault(3), 0);
        x.text(3, 80);
        Check.due("behind the last place", x.fault(3), 80);
        Check.write(x, 3, " ".repeat(79) + "d");
        Check.due("the last place", x.fault(3), 79);
        x.text(3, 0);
        Check.due("an empty one", x.fault(3), 0);
        Check.write(x, 3, "c20h");
        long before = x.digest();
        int[] told = {x.fault(3), x.fault(2), x.fault(0)};
        Check.due("of the first", told[0], NONE);
        Check.due("of the second", told[1], 0);
        Check.due("of the third", told[2], NONE);
        Check.due("it changes nothing", x.digest(), before);
        Check.due("the COUNTRY stays", x.minutes(0, 1), 4);
        Check.due("asked() is not told by it", x.asked(), 31337);
    }

    private static void faultNone() {
        PaperTrail x = new PaperTrail();
        Check.write(x, 0, "c20");
        Check.due("the shortest", x.fault(0), NONE);
        Check.write(x, 1, "c79hhhh" + TWELVE + " ".repeat(25));
        Check.due("the fullest", x.fault(1), NONE);
        Check.write(x, 2, " ".repeat(77) + "c20");
        Check.due("the latest", x.fault(2), NONE);
        Check.write(x, 3, " ".repeat(78) + "c2");
        Check.due("one place too late", x.fault(3), 80);
        Check.due("a FAULT is no FINDING", x.finding(), 0);
    }

    private static void faultBad() {
        PaperTrail x = Edges.rich();
        for (int t : Edges.outside(4)) {
            Check.bad(x, "fault(" + t + ")", () -> x.fault(t));
        }
    }

    private static void faultNothing() {
        PaperTrail x = Edges.rich();
        Check.found(x, "fault(1)", () -> x.fault(1), Check.NOTHING);
        Check.found(x, "fault(3)", () -> x.fault(3), Check.NOTHING);
        x.text(3, 0);
        Check.due("an empty one is there", x.fault(3), 0);
    }

    private static void countryByText() {
        PaperTrail x = new PaperTrail();
        Check.write(x, 3, "c34tl-019-218");
        Check.due("country(3)", x.country(3), 3);
        int[] counts = {3, 2, 2, 4, 0, 0, 1, 0, 1, 0};
        for (int what = 0; what <= 9; what++) {
            Check.due("count(" + what + ")", x.count(what), counts[what]);
        }
        Check.due("a PATH", x.minutes(1, 2), 8);
        x.text(3, 0);
        Check.due("it stays, whatever becomes of the TEXT", x.count(0), 3);
        Check.tells(x, "its HOUNDS, too", x.hound(0, 0), 1, 5);
        Check.write(x, 0, "c20");
        Check.due("anew, with fewer of all", x.country(0), 2);
        Check.due("no HOUNDS", x.count(1), 0);
        Check.due("no PATHS", x.count(2), 0);
        Check.due("no PATH", x.minutes(0, 1), NONE);
        Check.due("the HEAD by the TEXT", x.count(3), 0);
        x.head(5);
        x.country(0);
        Check.due("the HEAD by the TEXT again", x.count(3), 0);
        Check.bad(x, "a PLACE of old", () -> x.minutes(0, 2));
        Check.bad(x, "a HOUND of old", () -> x.hound(0, 0));
    }

    private static void countryNoTrail() {
        PaperTrail x = Edges.rich();
        Check.due("anew", x.country(0), 7);
        Check.due("count(4)", x.count(4), 0);
        Check.due("paper()", x.paper(), 0);
        Check.state(x, "hares(0)", () -> x.hares(0));
        Check.tells(x, "hound(0, 1)", x.hound(0, 1), 1, NONE);
        Check.due("ROWS stay", x.count(7), 2);
    }

    private static void countryNoEnds() {
        PaperTrail x = Edges.rich();
        x.country(0);
        Check.due("count(5)", x.count(5), 0);
        Check.bad(x, "off(1)", () -> x.off(1));
        x.trail(0);
        Check.due("nor on THE TRAIL laid again", x.paper(), 22);
        Check.due("so there can be one again", x.lure(2, 0, 1), 1);
    }

    private static void countryNoWind() {
        PaperTrail x = Edges.rich();
        x.country(0);
        Check.due("wind(0)", x.wind(0), 0);
        Check.write(x, 3, "c20");
        x.wind(127);
        x.country(3);
        Check.due("none on PLACES that are gone", x.wind(3), 0);
    }

    private static void countryNoneKept() {
        PaperTrail x = Edges.rich();
        x.keep(0);
        x.keep(2);
        Check.due("three are kept", x.count(9), 3);
        x.country(0);
        Check.due("count(9)", x.count(9), 0);
        for (int k = 0; k < 3; k++) {
            int n = k;
            Check.found(x, "on(" + k + ")", () -> x.on(n), Check.NOTHING);
        }
    }

    private static void countryPlaces() {
        PaperTrail x = new PaperTrail();
        for (int n = 2; n <= 7; n++) {
            Check.write(x, 1, "c" + n + "0");
            Check.due("country of " + n, x.country(1), n);
            Check.due("count(0)", x.count(0), n);
        }
        Check.write(x, 1, "c10");
        Check.state(x, "of 1", () -> x.country(1));
        Check.write(x, 1, "c80");
        Check.state(x, "of 8", () -> x.country(1));
        Check.due("it stays", x.count(0), 7);
    }

    private static void countryBad() {
        PaperTrail x = Edges.rich();
        for (int t : Edges.outside(4)) {
            Check.bad(x, "country(" + t + ")", () -> x.country(t));
        }
    }

    private static void countryNothing() {
        PaperTrail x = Edges.rich();
        Check.found(x, "country(1)", () -> x.country(1), Check.NOTHING);
        Check.found(x, "country(3)", () -> x.country(3), Check.NOTHING);
    }

    private static void countryState() {
        PaperTrail x = Edges.rich();
        for (String text : new String[] {"", " ", "d20", "c2", "c20x", "c40hq-012-01", "c20-011-011"}) {
            Check.write(x, 2, text);
            Check.state(x, "country of '" + text + "'", () -> x.country(2));
            Check.due("the COUNTRY stays", x.minutes(0, 2), 9);
            Check.due("so does a kept one", x.count(9), 1);
        }
        Check.due("THE TRAIL stays", x.comes(0, 1), 7);
        Check.due("a kept one is as it was", x.on(1), 2);
    }

    private static void countryOrder() {
        PaperTrail x = Edges.rich();
        Check.found(x, "missing", () -> x.country(3), Check.NOTHING);
        x.text(3, 0);
        Check.state(x, "there, with a FAULT", () -> x.country(3));
        Check.due("STATE is no FINDING", x.findings(Check.NOTHING), 1);
    }

    private static void houndKind() {
        for (int kind = 0; kind < 6; kind++) {
            PaperTrail x = Check.land("c20" + Model.LETTERS.charAt(kind) + "h");
            Check.tells(x, "without a TRAIL", x.hound(0, 0), 1, kind);
            Check.tells(x, "the next one", x.hound(1, 0), 1, 0);
            PaperTrail y = Check.land("c20hhh" + Model.LETTERS.charAt(kind) + "-011", 0, 1);
            Check.tells(y, "with a TRAIL", y.hound(3, 0), 1, kind);
            Check.tells(y, "the first one", y.hound(0, 0), 1, 0);
        }
    }

    private static void houndAtInn() {
        PaperTrail x = Check.land("c29hqsa-019");
        for (int i = 0; i < 4; i++) {
            Check.tells(x, "no TRAIL", x.hound(i, 1), 1, NONE);
        }
        Check.fill(x, 1, 0, 1);
        x.trail(1);
        int[] minutes = {18, 14, 27, 18};
        for (int i = 0; i < 4; i++) {
            Check.tells(x, "HOUND " + i, x.hound(i, 1), 1, minutes[i]);
        }
        x.head(0);
        Check.tells(x, "by another HEAD", x.hound(0, 1), 1, 9);
        x.country(0);
        Check.tells(x, "no TRAIL any more", x.hound(0, 1), 1, NONE);
    }

    private static void houndLost() {
        PaperTrail x = Check.land("c30hla-011-121-021");
        for (int i = 0; i < 3; i++) {
            Check.tells(x, "without a TRAIL", x.hound(i, 2), 1, 0);
        }
        x.wind(7);
        Check.tells(x, "without a TRAIL in the WIND", x.hound(0, 2), 1, 0);
        x.wind(0);
        Check.fill(x, 1, 0, 1, 2);
        x.trail(1);
        Check.tells(x, "without CHECKS", x.hound(0, 2), 1, 0);
        x.lure(1, 0, 5);
        x.lure(0, 2, 1);
        Check.tells(x, "the lesser one", x.hound(0, 2), 1, 10);
        Check.tells(x, "two CHECKS of a LEADER", x.hound(1, 2), 1, 2);
        Check.tells(x, "the greater one", x.hound(2, 2), 1, 2);
        x.wind(4);
        Check.tells(x, "none at the INN", x.hound(0, 2), 1, 10);
        x.wind(7);
        Check.tells(x, "all, and 2 at each of 2", x.hound(0, 2), 1, 16);
        Check.tells(x, "a LEADER's stay", x.hound(1, 2), 1, 2);
    }

    private static void houndTold() {
        PaperTrail x = Edges.rich();
        Check.tells(x, "0", x.hound(3, 0), 1, 3);
        // 22 minutes behind 3; 2 in the WIND at 4, 2 at 2
        Check.tells(x, "1", x.hound(0, 1), 1, 29);
        Check.tells(x, "2", x.hound(0, 2), 1, 4);
    }

    private static void houndBad() {
        PaperTrail x = Edges.rich();
        for (int i : Edges.outside(4)) {
            for (int what = 0; what <= 2; what++) {
                int n = what;
                Check.bad(x, "hound(" + i + ", " + what + ")", () -> x.hound(i, n));
            }
        }
        for (int what : Edges.outside(3)) {
            Check.bad(x, "hound(0, " + what + ")", () -> x.hound(0, what));
            Check.bad(x, "hound(4, " + what + ")", () -> x.hound(4, what));
        }
        PaperTrail y = Check.land("c20hqs");
        Check.bad(y, "a fourth of 3", () -> y.hound(3, 0));
        Check.due("a third of 3", y.hound(2, 0), 1);
        PaperTrail z = Check.land("c20-011", 0, 1);
        Check.bad(z, "a first of none", () -> z.hound(0, 0));
    }

    private static void markWithoutTrail() {
        PaperTrail x = Check.land("c24qsal-019");
        PaperTrail y = Check.land("c24t-019");
        x.wind(3);
        y.wind(3);
        Check.due("QUICK", x.mark(0, 1), 0);
        Check.due("SLOW", x.mark(1, 2), 0);
        Check.due("CASTER", x.mark(2, 3), 0);
        Check.due("LEADER", x.mark(3, 4), 0);
        Check.due("a LEADER is a QUICK one", x.mark(3, 1), 0);
        Check.due("TIRED", y.mark(0, 5), 0);
        Check.due("a TIRED one is a SLOW one", y.mark(0, 2), 0);
        Check.due("asked() is not told by it", y.asked(), 0);
    }

    private static void markQuick() {
        int[] saved = {0, 0, 1, 1, 2, 2, 3, 3, 4, 4};
        for (int minutes = 1; minutes <= 9; minutes++) {
            PaperTrail x = Check.land("c25ql-01" + minutes, 0, 1);
            Check.due("by a PATH of " + minutes, x.mark(0, 1), saved[minutes]);
            Check.due("a LEADER by a PATH of " + minutes, x.mark(1, 1), saved[minutes]);
        }
        // halves are counted by each PATH: 3 of 1 minute save none
        PaperTrail x = Check.land("c40ql-011-121-231-021", 0, 1, 2, 3);
        Check.due("three of 1", x.mark(0, 1), 0);
        x.lure(1, 0, 5);
        x.wind(7);
        Check.due("CHECKS save nothing", x.mark(0, 1), 0);
        Check.due("nor a LEADER at CHECKS", x.mark(1, 1), 0);
    }

    private static void markSlow() {
        PaperTrail x = Check.land("c40lst-013-123-233-021-131", 0, 1, 2, 3);
        Check.due("no CHECKS", x.mark(1, 2), 0);
        x.wind(7);
        // at the START nobody called by then: the LEADER leaves in minute 1
        Check.due("at 1 and 2", x.mark(1, 2), 2);
        Check.due("a TIRED one, too", x.mark(2, 2), 2);
        x.wind(15);
        Check.due("the INN is no CHECK", x.mark(1, 2), 2);
        x.wind(1);
        Check.due("not at the START", x.mark(1, 2), 0);
        x.wind(0);
        x.lure(0, 2, 1);
        Check.due("where nothing lesser is, the first one calls at once", x.mark(2, 2), 1);
        PaperTrail y = Check.land("c30s-011-121", 0, 1, 2);
        y.wind(3);
        Check.due("alone: none", y.mark(0, 2), 0);
    }

    private static void markCaster() {
        PaperTrail x = Check.land("c50a-011-121-231-341-131-141-021", 0, 1, 2, 3, 4);
        Check.due("none", x.mark(0, 3), 0);
        x.lure(1, 0, 1);
        Check.due("a lesser one is not gone", x.mark(0, 3), 0);
        x.lure(1, 3, 1);
        Check.due("a greater one", x.mark(0, 3), 1);
        x.lure(1, 4, 1);
        Check.due("two greater ones", x.mark(0, 3), 2);
        x.lure(2, 1, 1);
        x.wind(1 << 1);
        Check.due("all at 1 in the WIND", x.mark(0, 3), 3);
        x.wind(31);
        Check.due("all", x.mark(0, 3), 4);
        Check.due("WIND alone", x.off(0) * 0 + x.mark(0, 3), 0);
    }

    private static void markLeader() {
        PaperTrail x = Check.land("c40l-013-123-233-021-131", 0, 1, 2, 3);
        Check.due("no CHECK", x.mark(0, 4), 0);
        x.lure(1, 3, 5);
        Check.due("one", x.mark(0, 4), 1);
        x.lure(1, 0, 5);
        Check.due("two ends at one CHECK", x.mark(0, 4), 1);
        x.wind(2);
        Check.due("in the WIND, too", x.mark(0, 4), 1);
        x.wind(15);
        Check.due("three CHECKS, none at the INN", x.mark(0, 4), 3);
    }

    private static void markTired() {
        PaperTrail x = Check.land("c70t-011-121-231-341-451-561-061", 0, 6);
        Check.due("one PATH", x.mark(0, 5), 1);
        Check.fill(x, 0, 0, 1, 2, 3, 4, 5, 6);
        x.trail(0);
        Check.due("six PATHS", x.mark(0, 5), 6);
    }

    private static void markBad() {
        PaperTrail x = Edges.rich();
        for (int i : Edges.outside(4)) {
            for (int kind = 0; kind <= 6; kind++) {
                int k = kind;
                Check.bad(x, "mark(" + i + ", " + kind + ")", () -> x.mark(i, k));
            }
        }
        for (int i = 0; i < 4; i++) {
            int n = i;
            for (int kind : new int[] {0, -1, 6, Integer.MIN_VALUE, Integer.MAX_VALUE}) {
                Check.bad(x, "mark(" + i + ", " + kind + ")", () -> x.mark(n, kind));
            }
        }
        PaperTrail y = Check.land("c20q");
        Check.bad(y, "a second of 1", () -> y.mark(1, 1));
        Check.bad(y, "KIND 0 without a TRAIL", () -> y.mark(0, 0));
    }

    private static void markUnlike() {
        // by KINDS: what each one IS, but for KIND 0
        boolean[][] is = {
            {false, false, false, false, false}, {true, false, false, false, false}, {false, true, false, false, false},
            {false, false, true, false, false}, {true, false, false, true, false}, {false, true, false, false, true}};
        for (int kind = 0; kind < 6; kind++) {
            PaperTrail x = Check.land("c24" + Model.LETTERS.charAt(kind) + "-019");
            PaperTrail y = Check.land("c24" + Model.LETTERS.charAt(kind) + "-019", 0, 1);
            for (int other = 1; other <= 5; other++) {
                int k = other;
                if (is[kind][other - 1]) {
                    Check.due(kind + " is " + other, x.mark(0, other), 0);
                } else {
                    Check.found(x, kind + " is no " + other, () -> x.mark(0, k), Check.UNLIKE);
                    Check.found(y, kind + " is no " + other, () -> y.mark(0, k), Check.UNLIKE);
                }
            }
        }
    }

    private static void minutesBetween() {
        for (int v = 1; v <= 9; v++) {
            PaperTrail x = Check.land("c70-06" + v + "-651");
            Check.due("0 to 6", x.minutes(0, 6), v);
            Check.due("6 to 0", x.minutes(6, 0), v);
            Check.due("5 to 6", x.minutes(5, 6), 1);
        }
    }

    private static void minutesNone() {
        PaperTrail x = Check.land("c30-013");
        Check.none(x, "0 to 2", () -> x.minutes(0, 2));
        Check.none(x, "2 to 1", () -> x.minutes(2, 1));
        PaperTrail y = Check.land("c20");
        Check.none(y, "no PATHS", () -> y.minutes(0, 1));
    }

    private static void minutesBad() {
        PaperTrail x = Edges.rich();
        for (int at = 0; at < 7; at++) {
            int n = at;
            Check.bad(x, "one alone, " + at, () -> x.minutes(n, n));
        }
        for (int at : Edges.outside(7)) {
            Check.bad(x, "from " + at, () -> x.minutes(at, 0));
            Check.bad(x, "to " + at, () -> x.minutes(0, at));
            Check.bad(x, "both " + at, () -> x.minutes(at, at));
        }
        PaperTrail y = Check.land("c20-011");
        Check.bad(y, "a third PLACE of 2", () -> y.minutes(0, 2));
    }

    private static void headIs() {
        PaperTrail x = Check.land("c29h-011", 0, 1);
        int was = 9;
        for (int v = 0; v <= 9; v++) {
            Check.due("head(" + v + ")", x.head(v), was);
            Check.due("count(3)", x.count(3), v);
            Check.due("a HOUND's start", x.comes(0, 0), v);
            was = v;
        }
        Check.due("the same again", x.head(9), 9);
        PaperTrail y = Check.land("c20");
        Check.due("without HOUNDS, a TRAIL", y.head(9), 0);
        Check.due("is 9", y.head(0), 9);
    }

    private static void headBad() {
        PaperTrail x = Edges.rich();
        for (int v : Edges.outside(10)) {
            Check.bad(x, "head(" + v + ")", () -> x.head(v));
        }
        PaperTrail y = new PaperTrail();
        for (int v : Edges.outside(10)) {
            Check.bad(y, "BAD ahead of STATE, " + v, () -> y.head(v));
        }
    }

    private static void headState() {
        PaperTrail x = new PaperTrail();
        Check.state(x, "head(0)", () -> x.head(0));
        Check.state(x, "head(9)", () -> x.head(9));
        Check.write(x, 0, "c2");
        Check.state(x, "country", () -> x.country(0));
        Check.state(x, "still none", () -> x.head(5));
        Check.write(x, 0, "c20");
        x.country(0);
        Check.due("two PLACES", x.head(5), 0);
    }
}
