/** Promises 10 to 15: FAULTS, countries, HOUNDS, marks, PATHS, the HEAD. */
public final class CountryTest {
    private static final int NONE = PaperTrail.NONE;

    public static void main(String[] args) {
        fault();
        faultOfMany();
        faultRefused();
        country();
        hound();
        mark();
        minutes();
        head();
        Check.end();
    }

    private static void faultIs(String text, int want) {
        PaperTrail x = new PaperTrail();
        Check.write(x, 2, text);
        Check.due("fault of '" + text + "'", x.fault(2), want);
        Check.due("country of '" + text + "'", x.country(2), want == NONE ? text.trim().charAt(1) - '0' : PaperTrail.STATE);
    }

    private static void fault() {
        faultIs("c20", NONE);
        faultIs("c79", NONE);
        faultIs("  c73  h q  -014  ", NONE);
        faultIs("c20hqsa-019", NONE);
        faultIs("c20ltlt-101", NONE);
        faultIs("", 0);
        faultIs("   ", 3);
        faultIs("c", 1);
        faultIs("c2", 2);
        faultIs("x20", 0);
        faultIs(" C20", 1);
        faultIs("c10", 1);
        faultIs("c80", 1);
        faultIs("c 20", 1);
        faultIs("c2 0", 2);
        faultIs("c2x", 2);
        faultIs("c20b", 3);
        faultIs("c20 c20", 4);
        faultIs("c20 5", 4);
        faultIs("c20-", 4);
        faultIs("c20-0", 5);
        faultIs("c20-01", 6);
        faultIs("c20-0 1", 5);
        faultIs("c20-01 ", 6);
        faultIs("c20- 011", 4);
        faultIs("c20-211", 4);
        faultIs("c20-021", 5);
        faultIs("c20-001", 5);
        faultIs("c20-010", 6);
        faultIs("c20-01x", 6);
        faultIs("c20-01h", 6);
        faultIs("c30-01-123", 6);
        faultIs("c30-0-123", 5);
        faultIs("c30--0123", 4);
        faultIs("c30-013-014", 9);
        faultIs("c30-013 -104", 10);
        faultIs("c30-013-10", 9);
        faultIs("c30-013h", 7);
        faultIs("c30h-013 q", 9);
        faultIs("c30hhhhh", 7);
        faultIs("c30hhhh h-013", 8);
        faultIs("c30\0", 3);
    }

    private static void faultOfMany() {
        String twelve = "-011-021-031-041-051-061-121-131-141-151-161-231";
        faultIs("c70" + twelve, NONE);
        faultIs("c70 " + twelve + " -241", 4 + 48 + 1);
        faultIs("c70" + twelve + "-", 3 + 48);
        String text = "c70hhhh" + twelve;
        faultIs(text + " ".repeat(80 - text.length()), NONE);
    }

    private static void faultRefused() {
        PaperTrail x = new PaperTrail();
        Check.bad(x, "fault(-1)", () -> x.fault(-1));
        Check.bad(x, "fault(4)", () -> x.fault(4));
        Check.found(x, "fault missing", () -> x.fault(3), Check.NOTHING);
        Check.bad(x, "country(-1)", () -> x.country(-1));
        Check.bad(x, "country(4)", () -> x.country(4));
        Check.found(x, "country missing", () -> x.country(3), Check.NOTHING);
        x.text(3, 0);
        Check.state(x, "country of nothing", () -> x.country(3));
        x.text(3, 3);
        x.put(3, 0, 99);
        x.put(3, 1, 256 + 50);
        x.put(3, 2, 48);
        Check.due("a byte cut", x.fault(3), NONE);
    }

    private static void country() {
        PaperTrail x = Check.land("c73hqsl" + Check.PATHS, 0, 1, 2, 4, 5, 6);
        Check.due("PLACES", x.count(0), 7);
        Check.due("HOUNDS", x.count(1), 4);
        Check.due("PATHS", x.count(2), 10);
        Check.due("HEAD", x.count(3), 3);
        Check.due("QUICK ones", x.count(6), 2);
        x.lure(1, 4, 2);
        x.wind(5);
        x.keep(1);
        Check.write(x, 0, "c20");
        x.put(0, 0, 'd');
        Check.state(x, "a FAULT keeps all", () -> x.country(0));
        Check.due("FALSE ends stay", x.count(5), 1);
        Check.write(x, 1, " c35 t -025");
        Check.due("country anew", x.country(1), 3);
        int[] counts = {3, 1, 1, 5, 0, 0, 0, 1, 2, 0};
        for (int what = 0; what <= 9; what++) {
            Check.due("anew: count(" + what + ")", x.count(what), counts[what]);
        }
        Check.due("anew: WIND", x.wind(0), 0);
        Check.found(x, "anew: kept ones go", () -> x.on(1), Check.NOTHING);
        Check.due("anew: old PATHS go", x.minutes(0, 1), NONE);
        Check.due("anew: new PATH", x.minutes(2, 0), 5);
        Check.tells(x, "anew: KIND", x.hound(0, 0), 1, 5);
    }

    private static void hound() {
        String letters = "hqsa";
        PaperTrail x = Check.land("c73" + letters + Check.PATHS);
        for (int i = 0; i < 4; i++) {
            Check.tells(x, "KIND", x.hound(i, 0), 1, i);
            Check.tells(x, "no TRAIL", x.hound(i, 1), 1, NONE);
            Check.tells(x, "no TRAIL", x.hound(i, 2), 1, 0);
        }
        Check.bad(x, "hound(4, 0)", () -> x.hound(4, 0));
        Check.bad(x, "hound(-1, 0)", () -> x.hound(-1, 0));
        Check.bad(x, "hound(0, 3)", () -> x.hound(0, 3));
        Check.bad(x, "hound(0, -1)", () -> x.hound(0, -1));
        // 0-1 4, 1-2 3, 2-4 7, 4-5 6, 5-6 2: 22 minutes, halves 2 2 4 3 1 = 12
        Check.fill(x, 0, 0, 1, 2, 4, 5, 6);
        x.trail(0);
        int[] plain = {25, 15, 47, 25};
        for (int i = 0; i < 4; i++) {
            Check.tells(x, "at the INN", x.hound(i, 1), 1, plain[i]);
            Check.tells(x, "lost none", x.hound(i, 2), 1, 0);
        }
        // at 2 (next 4): towards 0, 1 lesser (2 + 1 minutes), towards 3 lesser too (4)
        x.lure(2, 0, 2);
        x.lure(2, 1, 1);
        x.lure(2, 3, 4);
        x.lure(1, 4, 5);
        int[] lost = {14, 14, 14, 10};
        // the SLOW one is at 2 in minute 3 + 8 + 6 = 17, as the QUICK one leaves in 3 + 4 + 14 = 21
        for (int i = 0; i < 4; i++) {
            Check.tells(x, "lost", x.hound(i, 2), 1, lost[i]);
            Check.tells(x, "later at the INN", x.hound(i, 1), 1, plain[i] + lost[i]);
        }
        PaperTrail y = Check.land("c20lt-019", 0, 1);
        Check.tells(y, "LEADER's pace", y.hound(0, 1), 1, 5);
        Check.tells(y, "TIRED one's pace", y.hound(1, 1), 1, 19);
        y.wind(1);
        Check.tells(y, "LEADER waits", y.hound(0, 2), 1, 1);
        Check.tells(y, "TIRED one casts about", y.hound(1, 2), 1, 2);
    }

    private static void markAll(PaperTrail x, int i, int... want) {
        for (int kind = 1; kind <= 5; kind++) {
            int k = kind;
            if (want[kind - 1] == PaperTrail.FINDING) {
                Check.found(x, "mark(" + i + ", " + k + ")", () -> x.mark(i, k), Check.UNLIKE);
            } else {
                Check.due("mark(" + i + ", " + k + ")", x.mark(i, k), want[kind - 1]);
            }
        }
    }

    private static void mark() {
        int no = PaperTrail.FINDING;
        PaperTrail x = Check.land("c73lthq" + Check.PATHS);
        markAll(x, 0, 0, no, no, 0, no);
        markAll(x, 1, no, 0, no, no, 0);
        Check.fill(x, 0, 0, 1, 2, 4, 5, 6);
        x.trail(0);
        x.lure(0, 2, 1);
        x.lure(2, 0, 1);
        x.wind(1 << 4 | 1 << 6);
        // CHECKS at 0, 2, 4: the LEADER leaves 0 in minute 4, the QUICK one in 3, behind the TIRED one
        markAll(x, 0, 10, no, no, 3, no);
        markAll(x, 1, no, 2, no, no, 5);
        markAll(x, 2, no, no, no, no, no);
        markAll(x, 3, 10, no, no, no, no);
        PaperTrail y = Check.land("c73as" + Check.PATHS, 0, 1, 2, 4, 5, 6);
        y.lure(0, 2, 5);
        y.lure(2, 0, 1);
        y.lure(2, 3, 1);
        y.lure(4, 1, 1);
        markAll(y, 0, no, no, 1, no, no);
        y.wind(4);
        markAll(y, 0, no, no, 3, no, no);
        Check.bad(y, "mark(0, 0)", () -> y.mark(0, 0));
        Check.bad(y, "mark(0, 6)", () -> y.mark(0, 6));
        Check.bad(y, "mark(0, -1)", () -> y.mark(0, -1));
        Check.bad(y, "mark(2, 1)", () -> y.mark(2, 1));
        Check.bad(y, "mark(-1, 1)", () -> y.mark(-1, 1));
    }

    private static void minutes() {
        PaperTrail x = Check.land("c40-013-325");
        Check.due("minutes(0, 1)", x.minutes(0, 1), 3);
        Check.due("minutes(1, 0)", x.minutes(1, 0), 3);
        Check.due("minutes(2, 3)", x.minutes(2, 3), 5);
        Check.none(x, "minutes(0, 3)", () -> x.minutes(0, 3));
        Check.bad(x, "minutes(2, 2)", () -> x.minutes(2, 2));
        Check.bad(x, "minutes(4, 0)", () -> x.minutes(4, 0));
        Check.bad(x, "minutes(0, 4)", () -> x.minutes(0, 4));
        Check.bad(x, "minutes(-1, 0)", () -> x.minutes(-1, 0));
        Check.bad(x, "minutes(0, MIN)", () -> x.minutes(0, Integer.MIN_VALUE));
    }

    private static void head() {
        PaperTrail x = new PaperTrail();
        Check.state(x, "no PLACES", () -> x.head(0));
        Check.bad(x, "BAD ahead of STATE", () -> x.head(10));
        PaperTrail y = Check.land("c24h-013", 0, 1);
        Check.due("head(9)", y.head(9), 4);
        Check.due("head(0)", y.head(0), 9);
        Check.due("count(3)", y.count(3), 0);
        Check.tells(y, "the HOUND starts sooner", y.hound(0, 1), 1, 3);
        Check.bad(y, "head(-1)", () -> y.head(-1));
        Check.bad(y, "head(10)", () -> y.head(10));
    }
}
