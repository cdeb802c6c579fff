import java.util.function.IntSupplier;

/** The document's 'Terms' at their edges, first half: refusals, FINDINGS, ROWS, TEXTS, the COUNTRY's language. */
final class EdgesOfTerms {
    private static final int NONE = PaperTrail.NONE;
    private static final String TWELVE = "-011-021-031-041-051-061-121-131-141-151-161-239";

    private EdgesOfTerms() { }

    static void all() {
        Edges.says(0, "Refused is, the first of these that fits, in this order: BAD -1 (a number that is none, or not as told)",
            EdgesOfTerms::badFirst);
        Edges.says(0, "FULL -2", EdgesOfTerms::full);
        Edges.says(0, "STATE -4 (not now)", EdgesOfTerms::stateNotNow);
        Edges.says(0, "SPENT -6 (more than told)", EdgesOfTerms::spent);
        Edges.says(0, "FINDING -3 (finding() tells which)", EdgesOfTerms::findingTells);
        Edges.says(0, "unless a call says so otherwise", EdgesOfTerms::otherwise);
        Edges.says(0, "NONE -9", EdgesOfTerms::noneIs);
        Edges.says(0, "What is refused changes nothing but finding(), findings()", EdgesOfTerms::refusedChangesNothing);
        Edges.says(0, "FINDINGS: 1 NOTHING (a ROW, a TEXT, a kept COUNTRY that is missing)", EdgesOfTerms::nothing);
        Edges.says(0, "2 BEYOND (a place of a ROW, a TEXT that there is not)", EdgesOfTerms::beyond);
        Edges.says(0, "3 UNLIKE (a HOUND of another KIND; a number that is none)", EdgesOfTerms::unlike);
        Edges.says(0, "4 NOUGHT (shared among none)", EdgesOfTerms::nought);
        Edges.says(0, "5 SIZE (fewer than none; too many, not as many as due)", EdgesOfTerms::size);
        Edges.says(0, "Fractions are told by upper(), lower(), in lowest terms", EdgesOfTerms::lowestTerms);
        Edges.says(0, "the lower number above 0 (0 by 1)", EdgesOfTerms::noughtByOne);
        Edges.says(0, "Sets (of PLACES, of HOUNDS, of KINDS) are told by bits", EdgesOfTerms::sets);
        Edges.says(0, "ROWS 0 .. 5 are rows of 0 to 40 ints", EdgesOfTerms::rows);
        Edges.says(0, "TEXTS 0 .. 3 rows of 0 to 80 bytes", EdgesOfTerms::texts);
        Edges.says(0, "or missing (at first)", EdgesOfTerms::missing);
        Edges.says(0, "A COUNTRY (without PLACES, HOUNDS at first) is a TEXT", EdgesOfTerms::countryAtFirst);
        Edges.says(0, "blanks (32) ahead, between, behind as many as wanted", EdgesOfTerms::blanks);
        Edges.says(0, "none within items", EdgesOfTerms::blanksWithin);
        Edges.says(0, "The first item is c (99)", EdgesOfTerms::firstItem);
        Edges.says(0, "how many PLACES (2 to 7)", EdgesOfTerms::howManyPlaces);
        Edges.says(0, "the HEAD (0 .. 9: minutes by which the hares are ahead)", EdgesOfTerms::head);
        Edges.says(0, "one figure each", EdgesOfTerms::oneFigure);
        Edges.says(0, "then HOUNDS 0, 1, .. (4 at most; as they come): a letter", EdgesOfTerms::hounds);
        Edges.says(0, "then PATHS (12 at most): - (45)", EdgesOfTerms::paths);
        Edges.says(0, "two unlike PLACES", EdgesOfTerms::unlikePlaces);
        Edges.says(0, "the MINUTES (1 .. 9)", EdgesOfTerms::minutes);
        Edges.says(0, "no PATH yet between them", EdgesOfTerms::noPathYet);
        Edges.says(0, "A FAULT is the first place at which it can't go on so", EdgesOfTerms::faultFirst);
        Edges.says(0, "(a letter", EdgesOfTerms::faultLetter);
        Edges.says(0, "a figure that is none such", EdgesOfTerms::faultFigure);
        Edges.says(0, "a PLACE that there is not", EdgesOfTerms::faultPlace);
        Edges.says(0, "the same one twice", EdgesOfTerms::faultTwice);
        Edges.says(0, "a PATH told already: there", EdgesOfTerms::faultTold);
        Edges.says(0, "a fifth HOUND", EdgesOfTerms::faultFifth);
        Edges.says(0, "one behind a PATH", EdgesOfTerms::faultBehind);
        Edges.says(0, "a thirteenth PATH: its first place", EdgesOfTerms::faultThirteenth);
        Edges.says(0, "the TEXT's size, if its end comes too early", EdgesOfTerms::faultEnd);
        Edges.says(0, "or there are blanks alone)", EdgesOfTerms::faultBlanks);
        Edges.says(0, "KINDS of HOUNDS and letters: 0 HOUND (h, 104), 1 QUICK (q, 113; a HOUND), 2 SLOW (s, 115; a HOUND),"
            + " 3 CASTER (a, 97; a HOUND), 4 LEADER (l, 108; a QUICK), 5 TIRED (t, 116; a SLOW)", EdgesOfTerms::kinds);
    }

    private static void badFirst() {
        PaperTrail x = new PaperTrail();
        Check.due("BAD", PaperTrail.BAD, -1);
        Check.bad(x, "BAD ahead of STATE: head", () -> x.head(10));
        Check.bad(x, "BAD ahead of STATE: keep", () -> x.keep(3));
        Check.bad(x, "BAD ahead of STATE: empty", () -> x.empty(100));
        Check.bad(x, "BAD ahead of STATE: fewest", () -> x.fewest(6));
        Check.bad(x, "BAD ahead of STATE: least", () -> x.least(6));
        Check.bad(x, "BAD ahead of STATE: route", () -> x.route(6));
        Check.bad(x, "BAD ahead of STATE: run", () -> x.run(0));
        Check.bad(x, "BAD ahead of STATE: chance", () -> x.chance(0, 1));
        Check.bad(x, "BAD ahead of STATE: mid", () -> x.mid(0));
        Check.bad(x, "BAD ahead of STATE: gone", () -> x.gone(0));
        Check.bad(x, "BAD ahead of FINDING: row", () -> x.row(6, -1));
        Check.bad(x, "BAD ahead of FINDING: text", () -> x.text(4, -1));
        Check.bad(x, "BAD ahead of FINDING: put", () -> x.put(4, -1, 0));
        Check.bad(x, "BAD ahead of FINDING: on", () -> x.on(3));
        Check.bad(x, "BAD ahead of FINDING: copy", () -> x.copy(6, 0, 0, 0, -1));
        PaperTrail y = Check.land("c20h");
        Check.bad(y, "BAD ahead of FINDING: mark", () -> y.mark(0, 6));
    }

    private static void full() {
        Check.due("FULL", PaperTrail.FULL, -2);
        PaperTrail x = Check.land("c73h" + Check.PATHS, 0, 1, 2, 4, 5, 6);
        int[][] ends = {{0, 2}, {1, 0}, {1, 4}, {2, 0}, {2, 1}, {2, 3}, {4, 1}, {4, 2}};
        for (int[] end : ends) {
            Check.due("not FULL yet", x.lure(end[0], end[1], 1) > 0 ? 1 : 0, 1);
        }
        Check.refused(x, "lure", () -> x.lure(4, 3, 1), PaperTrail.FULL, 0);
        Check.refused(x, "best", () -> x.best(), PaperTrail.FULL, 0);
        Check.bad(x, "BAD ahead of FULL", () -> x.lure(4, 3, 6));
    }

    private static void stateNotNow() {
        Check.due("STATE", PaperTrail.STATE, -4);
        PaperTrail x = Check.land("c20h-011");
        Check.state(x, "STATE ahead of FINDING: kinds", () -> x.kinds(0));
        Check.state(x, "STATE ahead of FINDING: hares", () -> x.hares(9));
        Check.state(x, "STATE ahead of FINDING: lure", () -> x.lure(1, 1, 1));
        Check.fill(x, 0, 0, 1);
        x.trail(0);
        Check.due("now", x.hares(1), 1);
        x.country(0);
        Check.state(x, "not now again", () -> x.hares(1));
    }

    private static void spent() {
        Check.due("SPENT", PaperTrail.SPENT, -6);
        PaperTrail x = new PaperTrail();
        x.row(0, 1);
        for (int n = 0; n < 500; n++) {
            x.lay(0, 0, n);
        }
        Check.tells(x, "the 502nd call is like the first", x.at(0, 0), 1, 499);
        Check.due("so is the 504th", x.row(1, 40), 40);
    }

    private static void findingTells() {
        Check.due("FINDING", PaperTrail.FINDING, -3);
        PaperTrail x = Edges.rich();
        Check.found(x, "NOTHING", () -> x.at(4, 0), 1);
        Check.found(x, "BEYOND", () -> x.at(3, 3), 2);
        Check.found(x, "UNLIKE", () -> x.mark(0, 1), 3);
        x.row(4, 0);
        Check.found(x, "NOUGHT", () -> x.mean(4), 4);
        Check.found(x, "SIZE", () -> x.row(4, -1), 5);
    }

    private static void otherwise() {
        PaperTrail x = new PaperTrail();
        Check.found(x, "country(): STATE behind NOTHING", () -> x.country(0), Check.NOTHING);
        PaperTrail y = Check.land("c73h" + Check.PATHS, 0, 1, 2, 4, 5, 6);
        int[][] ends = {{0, 2}, {1, 0}, {1, 4}, {2, 0}, {2, 1}, {2, 3}, {4, 1}, {4, 2}};
        for (int[] end : ends) {
            y.lure(end[0], end[1], 1);
        }
        Check.found(y, "lure(): FULL behind UNLIKE", () -> y.lure(4, 2, 1), Check.UNLIKE);
    }

    private static void noneIs() {
        Check.due("NONE", PaperTrail.NONE, -9);
        PaperTrail x = Check.land("c30h-011");
        Check.none(x, "minutes", () -> x.minutes(0, 2));
        Check.none(x, "least", () -> x.least(0));
        Check.none(x, "fault", () -> x.fault(0));
    }

    private static void refusedChangesNothing() {
        PaperTrail x = Edges.rich();
        IntSupplier[] calls = {
            () -> x.row(3, 41), () -> x.row(3, -1), () -> x.lay(3, 3, 1), () -> x.tear(4), () -> x.copy(3, 0, 0, 4, 3),
            () -> x.text(2, 81), () -> x.text(2, -1), () -> x.put(2, 10, 1), () -> x.country(2), () -> x.country(3),
            () -> x.head(10), () -> x.trail(3), () -> x.trail(4), () -> x.lure(2, 0, 5), () -> x.lure(2, 1, 6),
            () -> x.off(4), () -> x.off(-1), () -> x.wind(128), () -> x.wind(-1), () -> x.keep(3), () -> x.on(0),
            () -> x.pack(6, 3), () -> x.pack(0, 6), () -> x.fewest(6), () -> x.least(-1), () -> x.route(6),
            () -> x.across(0, 0, 6), () -> x.chance(0, 1000), () -> x.mid(4), () -> x.run(0), () -> x.kinds(3)};
        for (int n = 0; n < calls.length; n++) {
            IntSupplier call = calls[n];
            int before = x.finding();
            long digest = x.digest();
            int answer = call.getAsInt();
            Check.due("call " + n + " is refused", answer < 0 && answer != NONE ? 1 : 0, 1);
            Check.due("digest() behind " + n, x.digest(), digest);
            Check.due("finding() behind " + n, answer == PaperTrail.FINDING ? 1 : x.finding() == before ? 1 : 0, 1);
            Check.due("asked() behind " + n, x.asked(), 31337);
            Check.due("upper() behind " + n, x.upper(), 5);
            Check.due("lower() behind " + n, x.lower(), 8);
        }
        Check.due("a kept COUNTRY stays", x.on(1), 2);
        Check.due("as it was", x.paper(), 25);
        Check.due("its WIND, too", x.wind(0), 16);
    }

    private static void nothing() {
        PaperTrail x = Edges.rich();
        Check.found(x, "a ROW", () -> x.at(4, 0), 1);
        Check.found(x, "a TEXT", () -> x.fault(3), 1);
        Check.found(x, "a kept COUNTRY", () -> x.on(0), 1);
        Check.due("findings(1)", x.findings(1), 3);
    }

    private static void beyond() {
        PaperTrail x = Edges.rich();
        Check.found(x, "a place of a ROW", () -> x.at(3, 3), 2);
        Check.found(x, "a place of a ROW below 0", () -> x.at(3, -1), 2);
        Check.found(x, "a place of a TEXT", () -> x.put(2, 10, 1), 2);
        Check.found(x, "a place of a TEXT below 0", () -> x.put(2, -1, 1), 2);
        Check.found(x, "a place of THE TRAIL", () -> x.hares(6), 2);
        Check.due("findings(2)", x.findings(2), 5);
    }

    private static void unlike() {
        PaperTrail x = Edges.rich();
        Check.found(x, "a HOUND of another KIND", () -> x.mark(0, 1), 3);
        Check.fill(x, 4, 3, -1, NONE, NONE, NONE, NONE);
        Check.found(x, "a number that is none", () -> x.kinds(4), 3);
        Check.found(x, "no TRAIL", () -> x.trail(3), 3);
        Check.found(x, "no FALSE end", () -> x.lure(6, 5, 1), 3);
        Check.due("findings(3)", x.findings(3), 4);
    }

    private static void nought() {
        PaperTrail x = new PaperTrail();
        x.row(0, 0);
        Check.found(x, "shared among none", () -> x.mean(0), 4);
        Check.due("findings(4)", x.findings(4), 1);
        x.row(0, 1);
        Check.tells(x, "shared among one", x.mean(0), 1, 0);
    }

    private static void size() {
        PaperTrail x = Edges.rich();
        Check.found(x, "fewer than none, a ROW", () -> x.row(3, -1), 5);
        Check.found(x, "fewer than none, a TEXT", () -> x.text(2, -1), 5);
        Check.found(x, "fewer than none, a copy", () -> x.copy(3, 0, 0, 0, -1), 5);
        x.row(4, 7);
        Check.found(x, "too many", () -> x.kinds(4), 5);
        x.row(4, 5);
        Check.found(x, "not as many as due", () -> x.kinds(4), 5);
        Check.due("findings(5)", x.findings(5), 5);
    }

    private static void lowestTerms() {
        PaperTrail x = Check.land("c50h-011-121-131-141-021", 0, 1, 4);
        x.lure(1, 0, 1);
        x.lure(1, 2, 1);
        x.lure(1, 3, 1);
        // of 24 orders 6, 12, 18, 24
        Check.fraction(x, "6 of 24", x.chance(0, 2), 1, 4);
        Check.fraction(x, "12 of 24", x.chance(0, 4), 1, 2);
        Check.fraction(x, "18 of 24", x.chance(0, 6), 3, 4);
        Check.fraction(x, "24 of 24", x.chance(0, 8), 1, 1);
        Check.fraction(x, "a whole number", x.mid(0), 5, 1);
    }

    private static void noughtByOne() {
        PaperTrail x = Check.land("c30h-011-121", 0, 1, 2);
        Check.fraction(x, "without a CHECK", x.chance(0, 1), 0, 1);
        x.lure(1, 0, 5);
        Check.fraction(x, "0 of 2", x.chance(0, 1), 0, 1);
        Check.due("at first", new PaperTrail().upper(), 0);
        Check.due("at first", new PaperTrail().lower(), 1);
    }

    private static void sets() {
        PaperTrail x = Check.land("c70hhhh-011-121-231-341-451-561", 0, 1, 2, 3, 4, 5, 6);
        for (int place = 0; place < 7; place++) {
            x.wind(1 << place);
            Check.due("PLACE " + place, x.wind(0), 1 << place);
        }
        x.wind(1);
        Check.due("HOUNDS", x.call(0), 15);
        Check.fill(x, 1, NONE, NONE, NONE, NONE, NONE, NONE, NONE);
        Check.due("KINDS", x.kinds(1), 63);
    }

    private static void rows() {
        PaperTrail x = new PaperTrail();
        for (int r = 0; r < 6; r++) {
            Check.due("ROW " + r + ", 0 ints", x.row(r, 0), 0);
            Check.due("ROW " + r + ", 40 ints", x.row(r, 40), 40);
            Check.tells(x, "the last of 40", x.lay(r, 39, Integer.MIN_VALUE), 1, 0);
        }
        Check.bad(x, "ROW 6", () -> x.row(6, 0));
        Check.bad(x, "ROW -1", () -> x.row(-1, 0));
        Check.bad(x, "41 ints", () -> x.row(0, 41));
        Check.tells(x, "an int", x.at(5, 39), 1, Integer.MIN_VALUE);
    }

    private static void texts() {
        PaperTrail x = new PaperTrail();
        for (int t = 0; t < 4; t++) {
            Check.due("TEXT " + t + ", 0 bytes", x.text(t, 0), 0);
            Check.due("TEXT " + t + ", 80 bytes", x.text(t, 80), 80);
            Check.due("the last of 80", x.put(t, 79, 0x123), 1032);
        }
        Check.bad(x, "TEXT 4", () -> x.text(4, 0));
        Check.bad(x, "TEXT -1", () -> x.text(-1, 0));
        Check.bad(x, "81 bytes", () -> x.text(0, 81));
        Check.due("a byte", x.put(3, 79, 0), 1000 + 0x23);
    }

    private static void missing() {
        PaperTrail x = new PaperTrail();
        for (int n = 0; n < 6; n++) {
            int r = n;
            Check.found(x, "ROW " + n, () -> x.at(r, 0), Check.NOTHING);
        }
        for (int n = 0; n < 4; n++) {
            int t = n;
            Check.found(x, "TEXT " + n, () -> x.put(t, 0, 0), Check.NOTHING);
        }
        x.row(0, 0);
        Check.found(x, "an empty one is not missing", () -> x.at(0, 0), Check.BEYOND);
    }

    private static void countryAtFirst() {
        PaperTrail x = new PaperTrail();
        Check.due("PLACES", x.count(0), 0);
        Check.due("HOUNDS", x.count(1), 0);
        Check.write(x, 3, "c20h");
        Check.due("a TEXT is no COUNTRY yet", x.count(0), 0);
        x.country(3);
        Check.due("PLACES", x.count(0), 2);
        Check.due("HOUNDS", x.count(1), 1);
    }

    private static void faultIs(String text, int want) {
        PaperTrail x = new PaperTrail();
        Check.write(x, 0, text);
        Check.due("fault of '" + text + "'", x.fault(0), want);
        if (want == NONE) {
            Check.due("country of '" + text + "'", x.country(0), text.trim().charAt(1) - '0');
        } else {
            Check.state(x, "country of '" + text + "'", () -> x.country(0));
        }
    }

    private static void blanks() {
        faultIs("c30hq-011-121", NONE);
        faultIs(" c30 h q -011 -121 ", NONE);
        faultIs("      c30      h      q      -011      -121      ", NONE);
        faultIs(" ".repeat(67) + "c30hq-011-121", NONE);
        faultIs("c30hq-011-121" + " ".repeat(67), NONE);
        faultIs("c30" + " ".repeat(67) + "hq-011-121", NONE);
        for (int sign : new int[] {9, 10, 13, 31, 33, 0, 160, 255}) {
            faultIs("c30" + (char) sign + "hq", 3);
            faultIs((char) sign + "c30", 0);
        }
    }

    private static void blanksWithin() {
        faultIs("c 30", 1);
        faultIs("c3 0", 2);
        faultIs("c30- 011", 4);
        faultIs("c30-0 11", 5);
        faultIs("c30-01 1", 6);
        faultIs("c30-011 ", NONE);
    }

    private static void firstItem() {
        faultIs("c20", NONE);
        faultIs("b20", 0);
        faultIs("d20", 0);
        faultIs("C20", 0);
        faultIs("20", 0);
        faultIs("hc20", 0);
        faultIs("-011", 0);
        faultIs("  d20", 2);
        faultIs("c20c20", 3);
        PaperTrail x = new PaperTrail();
        x.text(0, 3);
        x.put(0, 0, 99);
        x.put(0, 1, 50);
        x.put(0, 2, 48);
        Check.due("99 50 48", x.fault(0), NONE);
        x.put(0, 0, 99 + 256);
        Check.due("cut to a byte", x.fault(0), NONE);
        x.put(0, 0, 99 - 128);
        Check.due("below 0", x.fault(0), 0);
    }

    private static void howManyPlaces() {
        for (int n = 0; n <= 9; n++) {
            faultIs("c" + n + "0", n >= 2 && n <= 7 ? NONE : 1);
        }
        faultIs("c/0", 1);
        faultIs("c:0", 1);
        faultIs("ch0", 1);
        faultIs("c-0", 1);
    }

    private static void head() {
        for (int n = 0; n <= 9; n++) {
            faultIs("c2" + n, NONE);
            PaperTrail x = Check.land("c2" + n + "h-011", 0, 1);
            Check.due("HEAD", x.count(3), n);
            Check.tells(x, "ahead", x.ahead(), 1, n);
        }
        faultIs("c2/", 2);
        faultIs("c2:", 2);
        faultIs("c2h", 2);
        faultIs("c2-", 2);
    }

    private static void oneFigure() {
        faultIs("c200", 3);
        faultIs("c2010", 3);
        faultIs("c30-0110", 7);
        faultIs("c30-01112", 7);
        faultIs("c30-0011", 5);
        faultIs("c30-01-121", 6);
    }

    private static void hounds() {
        faultIs("c20", NONE);
        faultIs("c20t", NONE);
        faultIs("c20tlas", NONE);
        faultIs("c20tlasq", 7);
        PaperTrail x = Check.land("c20tlas");
        int[] kinds = {5, 4, 3, 2};
        for (int i = 0; i < 4; i++) {
            Check.tells(x, "HOUND " + i, x.hound(i, 0), 1, kinds[i]);
        }
        PaperTrail y = Check.land("c20   q  h");
        Check.tells(y, "HOUND 0", y.hound(0, 0), 1, 1);
        Check.tells(y, "HOUND 1", y.hound(1, 0), 1, 0);
        Check.bad(y, "HOUND 2", () -> y.hound(2, 0));
    }

    private static void paths() {
        faultIs("c70", NONE);
        faultIs("c70" + TWELVE.substring(0, 44), NONE);
        faultIs("c70" + TWELVE, NONE);
        faultIs("c70" + TWELVE + "-241", 51);
        PaperTrail x = Check.land("c70" + TWELVE);
        Check.due("12", x.count(2), 12);
        Check.due("the first", x.minutes(0, 1), 1);
        Check.due("the twelfth", x.minutes(2, 3), 9);
        for (char sign : new char[] {',', '.', '+', '_', '0'}) {
            faultIs("c30" + sign + "011", 3);
        }
        PaperTrail y = new PaperTrail();
        Check.write(y, 0, "c30-011");
        Check.due("by its number", y.put(0, 3, 45), 1045);
        Check.due("fault", y.fault(0), NONE);
        y.put(0, 3, 45 - 128);
        Check.due("below 0", y.fault(0), 3);
    }

    private static void unlikePlaces() {
        for (int place = 0; place < 7; place++) {
            faultIs("c70-" + place + place + "1", 5);
        }
        faultIs("c70-061", NONE);
        faultIs("c70-601", NONE);
        faultIs("c20-101", NONE);
    }

    private static void minutes() {
        faultIs("c20-010", 6);
        for (int n = 1; n <= 9; n++) {
            faultIs("c20-01" + n, NONE);
            Check.due("MINUTES", Check.land("c20-01" + n).minutes(0, 1), n);
        }
        faultIs("c20-01/", 6);
        faultIs("c20-01:", 6);
        faultIs("c20-01-", 6);
        faultIs("c20-01h", 6);
    }

    private static void noPathYet() {
        faultIs("c30-011-121-021", NONE);
        faultIs("c30-011-012", 9);
        faultIs("c30-011-102", 9);
        faultIs("c30-011-121-211", 13);
        faultIs("c30-011-121-201-021", 17);
    }

    private static void faultFirst() {
        faultIs("x", 0);
        faultIs("cx", 1);
        faultIs("c9x", 1);
        faultIs("c2xx", 2);
        faultIs("c20xx", 3);
        faultIs("c20hxhhhhh", 4);
        faultIs("c20hhhhhx", 7);
        faultIs("c20-xx", 4);
        faultIs("c20-0xx", 5);
        faultIs("c20-01xx", 6);
        faultIs("c20-011xx", 7);
        faultIs("c20-011-011-", 9);
        faultIs("c20h \u0001", 5);
    }

    private static void faultLetter() {
        for (int sign = 0; sign < 256; sign++) {
            boolean fits = "hqsalt ".indexOf(sign) >= 0;
            faultIs("c20" + (char) sign, sign == '-' ? 4 : fits ? NONE : 3);
        }
        faultIs("c20H", 3);
        faultIs("c20hQ", 4);
    }

    private static void faultFigure() {
        for (int sign = 0; sign < 256; sign++) {
            faultIs("c" + (char) sign + "0", sign >= '2' && sign <= '7' ? NONE : 1);
            faultIs("c2" + (char) sign, sign >= '0' && sign <= '9' ? NONE : 2);
            faultIs("c20-" + (char) sign + "01", sign == '1' ? NONE : sign == '0' ? 5 : 4);
            faultIs("c20-0" + (char) sign + "1", sign == '1' ? NONE : 5);
            faultIs("c20-01" + (char) sign, sign >= '1' && sign <= '9' ? NONE : 6);
        }
    }

    private static void faultPlace() {
        for (int places = 2; places <= 7; places++) {
            faultIs("c" + places + "0-0" + (places - 1) + "1", NONE);
            faultIs("c" + places + "0-0" + places + "1", 5);
            faultIs("c" + places + "0-" + (places - 1) + "01", NONE);
            faultIs("c" + places + "0-" + places + "01", 4);
            faultIs("c" + places + "0-" + places + places + "1", 4);
        }
    }

    private static void faultTwice() {
        faultIs("c20-001", 5);
        faultIs("c20-111", 5);
        faultIs("c20-00", 5);
        faultIs("c20-000", 5);
        faultIs("c30-011-220", 9);
    }

    private static void faultTold() {
        faultIs("c30-011-01", 9);
        faultIs("c30-011-10", 9);
        faultIs("c30-011-010", 9);
        faultIs("c30-011-0", 9);
        faultIs("c30-011  -012", 11);
        faultIs("c70" + TWELVE.substring(0, 44) + "-101", 49);
    }

    private static void faultFifth() {
        faultIs("c20hhhh", NONE);
        faultIs("c20hhhhh", 7);
        faultIs("c20hhhh  q", 9);
        faultIs("c20hhhhh-011", 7);
        faultIs("c20hhhhx", 7);
    }

    private static void faultBehind() {
        faultIs("c20h-011", NONE);
        faultIs("c20-011h", 7);
        faultIs("c20-011 h", 8);
        faultIs("c30h-011h-121", 8);
        faultIs("c20hhhh-011h", 11);
    }

    private static void faultThirteenth() {
        faultIs("c70" + TWELVE, NONE);
        faultIs("c70" + TWELVE + "-", 51);
        faultIs("c70" + TWELVE + "  -241", 53);
        faultIs("c70" + TWELVE + "-011", 51);
        faultIs("c70" + TWELVE + "-991", 51);
        faultIs("c70hhhh" + TWELVE + "-241", 55);
    }

    private static void faultEnd() {
        faultIs("", 0);
        faultIs("c", 1);
        faultIs("c2", 2);
        faultIs("c20", NONE);
        faultIs("c20-", 4);
        faultIs("c20-0", 5);
        faultIs("c20-01", 6);
        faultIs("c20-011", NONE);
        faultIs(" ".repeat(79) + "c", 80);
        faultIs(" ".repeat(78) + "c2", 80);
        faultIs(" ".repeat(77) + "c20", NONE);
        faultIs("c20" + " ".repeat(76) + "-", 80);
        faultIs("c20" + " ".repeat(75) + "-0", 80);
        faultIs("c20" + " ".repeat(74) + "-01", 80);
        faultIs("c20" + " ".repeat(73) + "-011", NONE);
        PaperTrail x = new PaperTrail();
        Check.write(x, 0, "c20-011");
        x.text(0, 3);
        x.put(0, 0, 99);
        x.put(0, 1, 50);
        Check.due("what was behind the end is gone", x.fault(0), 2);
    }

    private static void faultBlanks() {
        for (int n : new int[] {0, 1, 2, 79, 80}) {
            faultIs(" ".repeat(n), n);
        }
    }

    private static void kinds() {
        int[] letters = {104, 113, 115, 97, 108, 116};
        int[][] is = {{}, {1}, {2}, {3}, {1, 4}, {2, 5}};
        for (int kind = 0; kind < 6; kind++) {
            PaperTrail x = new PaperTrail();
            x.text(0, 4);
            x.put(0, 0, 99);
            x.put(0, 1, 50);
            x.put(0, 2, 48);
            x.put(0, 3, letters[kind]);
            Check.due("country", x.country(0), 2);
            Check.tells(x, "KIND", x.hound(0, 0), 1, kind);
            int tells = 0, due = 0;
            for (int other = 1; other <= 5; other++) {
                tells |= x.mark(0, other) == 0 ? 1 << other : 0;
            }
            for (int other : is[kind]) {
                due |= 1 << other;
            }
            Check.due("what a HOUND of KIND " + kind + " is", tells, due);
        }
    }
}
