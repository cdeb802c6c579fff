/** Promises 16 to 23: THE TRAIL, FALSE ends, WIND, PAPER, kept COUNTRIES. */
public final class TrailTest {
    private static final int NONE = PaperTrail.NONE;

    public static void main(String[] args) {
        trail();
        lure();
        lureFull();
        off();
        wind();
        paper();
        empty();
        keepAndOn();
        Check.end();
    }

    private static void noTrail(PaperTrail x, String why, int... row) {
        Check.fill(x, 1, row);
        Check.found(x, "trail: " + why, () -> x.trail(1), Check.UNLIKE);
    }

    private static void trail() {
        PaperTrail x = new PaperTrail();
        Check.bad(x, "BAD ahead of STATE", () -> x.trail(6));
        Check.state(x, "no PLACES", () -> x.trail(0));
        PaperTrail y = Check.land("c73" + Check.PATHS);
        Check.bad(y, "trail(-1)", () -> y.trail(-1));
        Check.found(y, "no ROW", () -> y.trail(2), Check.NOTHING);
        Check.fill(y, 0, 0, 2, 3, 5, 6);
        Check.due("trail", y.trail(0), 4);
        Check.due("places of THE TRAIL", y.count(4), 5);
        y.lure(2, 1, 1);
        y.wind(3);
        noTrail(y, "empty");
        noTrail(y, "START alone", 0);
        noTrail(y, "not from the START", 1, 2, 4, 5, 6);
        noTrail(y, "not to the INN", 0, 1, 2, 4, 5);
        noTrail(y, "no PATH", 0, 3, 5, 6);
        noTrail(y, "twice the same", 0, 1, 2, 1, 4, 5, 6);
        noTrail(y, "twice at once", 0, 1, 1, 2, 4, 5, 6);
        noTrail(y, "a PLACE that is none", 0, 1, 7, 4, 5, 6);
        noTrail(y, "a PLACE below", 0, 1, -1, 4, 5, 6);
        noTrail(y, "a PLACE far off", 0, Integer.MIN_VALUE, Integer.MAX_VALUE, 6);
        noTrail(y, "bits that wrap around", 0, 33, 34, 36, 5, 6);
        noTrail(y, "more than PLACES", 0, 1, 2, 3, 4, 5, 5, 6);
        Check.due("FALSE ends stay, if refused", y.count(5), 1);
        Check.fill(y, 0, 0, 1, 2, 3, 4, 5, 6);
        Check.due("trail through all", y.trail(0), 6);
        Check.due("FALSE ends go", y.count(5), 0);
        Check.due("WIND stays", y.wind(0), 3);
        y.lay(0, 1, 6);
        Check.due("THE TRAIL is a ROW's copy", y.hares(1), 4);
    }

    private static void lure() {
        PaperTrail x = Check.land("c73" + Check.PATHS);
        Check.state(x, "no TRAIL", () -> x.lure(0, 2, 1));
        Check.bad(x, "BAD ahead of STATE", () -> x.lure(0, 2, 6));
        Check.fill(x, 0, 0, 1, 2, 4, 5, 6);
        x.trail(0);
        Check.due("lure", x.lure(2, 0, 1), 1);
        Check.due("back along THE TRAIL", x.lure(2, 1, 5), 2);
        Check.due("at the START", x.lure(0, 2, 3), 3);
        Check.due("towards the same from elsewhere", x.lure(5, 4, 3), 4);
        Check.bad(x, "0 MINUTES", () -> x.lure(1, 0, 0));
        Check.bad(x, "6 MINUTES", () -> x.lure(1, 0, 6));
        Check.bad(x, "at no PLACE", () -> x.lure(7, 0, 1));
        Check.bad(x, "at -1", () -> x.lure(-1, 0, 1));
        Check.bad(x, "towards no PLACE", () -> x.lure(1, 7, 1));
        Check.bad(x, "towards -1", () -> x.lure(1, -1, 1));
        Check.found(x, "not on THE TRAIL", () -> x.lure(3, 2, 1), Check.UNLIKE);
        Check.found(x, "at the INN", () -> x.lure(6, 5, 1), Check.UNLIKE);
        Check.found(x, "THE TRAIL itself", () -> x.lure(1, 2, 1), Check.UNLIKE);
        Check.found(x, "no PATH", () -> x.lure(1, 5, 1), Check.UNLIKE);
        Check.found(x, "towards itself", () -> x.lure(1, 1, 1), Check.UNLIKE);
        Check.found(x, "there is one", () -> x.lure(2, 0, 2), Check.UNLIKE);
    }

    private static void lureFull() {
        PaperTrail x = Check.land("c73" + Check.PATHS, 0, 1, 2, 4, 5, 6);
        int[][] ends = {{0, 2}, {1, 0}, {1, 4}, {2, 0}, {2, 1}, {2, 3}, {4, 1}, {4, 2}};
        for (int n = 0; n < 8; n++) {
            Check.due("lure " + n, x.lure(ends[n][0], ends[n][1], 5), n + 1);
        }
        Check.refused(x, "a ninth", () -> x.lure(4, 3, 1), PaperTrail.FULL, 0);
        Check.found(x, "UNLIKE ahead of FULL", () -> x.lure(4, 2, 1), Check.UNLIKE);
        Check.due("off(7)", x.off(7), 1);
        Check.due("room again", x.lure(4, 3, 1), 8);
    }

    private static void off() {
        PaperTrail x = Check.land("c73h" + Check.PATHS, 0, 1, 2, 4, 5, 6);
        Check.due("off(0) of none", x.off(0), 0);
        Check.bad(x, "off(1) of none", () -> x.off(1));
        x.lure(2, 0, 1);
        x.lure(2, 1, 2);
        x.lure(0, 2, 4);
        Check.due("off(3)", x.off(3), 0);
        Check.bad(x, "off(4)", () -> x.off(4));
        Check.bad(x, "off(-1)", () -> x.off(-1));
        Check.due("off(1)", x.off(1), 2);
        Check.due("one is left", x.paper(), 23);
        Check.due("it is the first one", x.lure(2, 1, 1), 2);
        Check.due("off(0)", x.off(0), 2);
        Check.due("none is left", x.count(5), 0);
    }

    private static void wind() {
        PaperTrail x = Check.land("c30h-011-121", 0, 1, 2);
        Check.due("wind(5)", x.wind(5), 0);
        Check.due("wind(7)", x.wind(7), 5);
        Check.bad(x, "wind(8)", () -> x.wind(8));
        Check.bad(x, "wind(-1)", () -> x.wind(-1));
        Check.bad(x, "wind(MIN)", () -> x.wind(Integer.MIN_VALUE));
        Check.tells(x, "2 minutes at START and 1, none at the INN", x.hound(0, 2), 1, 4);
        Check.due("no others", x.wind(2), 7);
        Check.tells(x, "2 minutes at 1", x.hound(0, 2), 1, 2);
    }

    private static void paper() {
        PaperTrail x = Check.land("c73" + Check.PATHS);
        Check.due("no TRAIL", x.paper(), 0);
        Check.fill(x, 0, 0, 1, 2, 4, 5, 6);
        x.trail(0);
        Check.due("22 minutes", x.paper(), 22);
        x.lure(2, 0, 1);
        x.lure(1, 4, 5);
        Check.due("FALSE ends", x.paper(), 28);
        x.wind(127);
        Check.due("WIND takes it later", x.paper(), 28);
    }

    private static void empty() {
        PaperTrail x = Check.land("c73" + Check.PATHS);
        Check.state(x, "no TRAIL", () -> x.empty(0));
        Check.bad(x, "BAD ahead of STATE", () -> x.empty(100));
        // 0-2 9, 2-4 7, 4-5 6, 5-6 2, with 3 and 4 at 2, 1 at 5
        Check.fill(x, 0, 0, 2, 4, 5, 6);
        x.trail(0);
        x.lure(2, 0, 3);
        x.lure(2, 3, 4);
        x.lure(5, 4, 1);
        int[][] sacks = {{0, 0}, {8, 0}, {9, 2}, {22, 2}, {23, 4}, {28, 4}, {29, 5}, {31, 5}, {32, NONE}, {99, NONE}};
        for (int[] sack : sacks) {
            Check.due("empty(" + sack[0] + ")", x.empty(sack[0]), sack[1]);
        }
        Check.bad(x, "empty(-1)", () -> x.empty(-1));
        Check.bad(x, "empty(100)", () -> x.empty(100));
    }

    private static void keepAndOn() {
        PaperTrail x = new PaperTrail();
        Check.bad(x, "BAD ahead of STATE", () -> x.keep(3));
        Check.state(x, "no PLACES", () -> x.keep(0));
        Check.found(x, "nothing kept", () -> x.on(0), Check.NOTHING);
        PaperTrail y = Check.land("c73h" + Check.PATHS);
        Check.due("keep without a TRAIL", y.keep(2), 0);
        Check.fill(y, 0, 0, 1, 2, 4, 5, 6);
        y.trail(0);
        y.lure(2, 0, 2);
        y.lure(1, 0, 1);
        y.wind(9);
        Check.due("keep", y.keep(0), 2);
        Check.due("two are kept", y.count(9), 2);
        long before = y.digest();
        y.off(1);
        y.lure(0, 2, 5);
        y.head(7);
        y.wind(1);
        Check.fill(y, 0, 0, 2, 4, 5, 6);
        y.trail(0);
        Check.fill(y, 0, 0, 1, 2, 4, 5, 6);
        Check.due("on", y.on(0), 2);
        Check.due("as it was", y.digest(), before);
        y.off(0);
        y.head(0);
        Check.due("on again", y.on(0), 2);
        Check.due("as it was again", y.digest(), before);
        Check.due("HEAD", y.count(3), 3);
        Check.due("on without a TRAIL", y.on(2), 0);
        Check.due("no TRAIL", y.count(4), 0);
        Check.due("no WIND", y.wind(0), 0);
        Check.due("keep over it", y.keep(0), 0);
        Check.due("still two", y.count(9), 2);
        Check.found(y, "on(1)", () -> y.on(1), Check.NOTHING);
        Check.bad(y, "on(-1)", () -> y.on(-1));
        Check.bad(y, "on(3)", () -> y.on(3));
        Check.bad(y, "keep(-1)", () -> y.keep(-1));
        Check.bad(y, "keep(3)", () -> y.keep(3));
    }
}
