/** Promises 42 to 48: what is told, counts, FINDINGS, the digest. */
public final class ToldTest {
    private static final int NONE = PaperTrail.NONE;

    public static void main(String[] args) {
        asked();
        fractions();
        count();
        findings();
        digest();
        Check.end();
    }

    /** Calls that tell nothing by asked() leave it, as do those that are NONE. */
    private static void asked() {
        PaperTrail x = Check.land("c73hq" + Check.PATHS, 0, 1, 2, 4, 5, 6);
        Check.fill(x, 1, 31337, 0);
        Check.tells(x, "at", x.at(1, 0), 1, 31337);
        x.lure(2, 0, 1);
        x.row(2, 6);
        x.copy(1, 0, 2, 0, 2);
        x.head(3);
        x.paper();
        x.empty(9);
        x.hares(1);
        x.pack(1, 3);
        x.call(2);
        x.fewest(3);
        x.trails();
        x.least(3);
        x.parted(2, 1);
        x.chance(0, 30);
        x.mid(0);
        x.kinds(2);
        x.gone(0);
        x.mark(1, 1);
        x.count(1);
        x.keep(0);
        x.on(0);
        x.wind(0);
        x.off(1);
        x.digest();
        x.fault(0);
        x.tear(3);
        Check.due("asked() stays", x.asked(), 31337);
        x.across(0, 0, 5);
        Check.due("NONE tells nothing", x.asked(), 31337);
        x.comes(0, 5);
        Check.due("of the INN: NONE", x.asked(), NONE);
        x.country(0);
        Check.due("a COUNTRY anew leaves it", x.asked(), NONE);
    }

    private static void fractions() {
        PaperTrail x = Check.land("c73h" + Check.PATHS, 0, 1, 2, 4, 5, 6);
        x.lure(2, 0, 1);
        Check.fraction(x, "chance", x.chance(0, 25), 1, 2);
        x.at(0, 1);
        x.run(3);
        x.chance(0, 1000);
        x.mid(1);
        Check.due("upper() stays", x.upper(), 1);
        Check.due("lower() stays", x.lower(), 2);
        Check.fraction(x, "mid", x.mid(0), 26, 1);
    }

    private static void count() {
        PaperTrail x = Check.land("c73ltql" + Check.PATHS, 0, 1, 2, 4, 5, 6);
        x.lure(2, 0, 1);
        x.lure(1, 0, 1);
        x.row(4, 0);
        x.text(3, 0);
        x.keep(2);
        int[] want = {7, 4, 10, 3, 6, 2, 3, 2, 2, 1};
        for (int what = 0; what <= 9; what++) {
            Check.due("count(" + what + ")", x.count(what), want[what]);
        }
        Check.bad(x, "count(-1)", () -> x.count(-1));
        Check.bad(x, "count(10)", () -> x.count(10));
        Check.bad(x, "count(MAX)", () -> x.count(Integer.MAX_VALUE));
    }

    private static void findings() {
        PaperTrail x = new PaperTrail();
        x.at(0, 0);
        x.at(0, 0);
        Check.due("NOTHING", x.finding(), Check.NOTHING);
        x.row(0, -1);
        Check.due("SIZE", x.finding(), Check.SIZE);
        x.row(0, 0);
        x.mean(0);
        Check.due("NOUGHT", x.finding(), Check.NOUGHT);
        x.at(0, 0);
        Check.due("BEYOND", x.finding(), Check.BEYOND);
        Check.write(x, 0, "c20h-011");
        x.country(0);
        x.mark(0, 1);
        Check.due("UNLIKE", x.finding(), Check.UNLIKE);
        x.row(9, 9);
        Check.due("BAD is no FINDING", x.finding(), Check.UNLIKE);
        int[] want = {0, 2, 1, 1, 1, 1};
        for (int f = 1; f <= 5; f++) {
            Check.due("findings(" + f + ")", x.findings(f), want[f]);
        }
        Check.bad(x, "findings(0)", () -> x.findings(0));
        Check.bad(x, "findings(6)", () -> x.findings(6));
        Check.bad(x, "findings(-1)", () -> x.findings(-1));
    }

    private static void digest() {
        PaperTrail x = Check.land("c41qs-014-122-231-133", 0, 1, 2, 3);
        x.lure(1, 0, 2);
        x.wind(12);
        x.keep(1);
        x.lure(2, 1, 3);
        x.tear(0);
        Check.fill(x, 3, -5, 1 << 30);
        x.text(0, 1);
        x.text(2, 2);
        x.put(2, 1, 200);
        x.row(5, 0);
        // q at 1 in 3, leaves 7; at 2 in 8, in the WIND 6 + 2, leaves 16; at 3 in 17
        // s at 1 in 9, called; at 2 in 13, loses 8, leaves 21; at 3 in 23
        Check.due("digest()", x.digest(), Check.fold(
            4, 2, 4, 1, 4, 2, 1, 2, 2, 1,
            12, 0, 1, 2, 3, 1, 0, 2, 2, 1, 3,
            1, 17, 12, 2, 23, 8,
            -1, 1, -1,
            -1, -1, -1, 2, -5, 1 << 30, -1, 0,
            1, 32, -1, 2, 32, -56, -1));
        Check.write(x, 0, "c30lt");
        x.country(0);
        x.text(2, 0);
        Check.due("without a TRAIL", x.digest(), Check.fold(
            3, 2, 0, 0, 0, 0, 1, 2, 2, 0,
            0, 4, NONE, 0, 5, NONE, 0,
            -1, -1, -1,
            -1, -1, -1, 2, -5, 1 << 30, -1, 0,
            5, 'c', '3', '0', 'l', 't', -1, 0, -1));
    }
}
