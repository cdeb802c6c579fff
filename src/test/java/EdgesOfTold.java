import java.util.ArrayList;
import java.util.List;
import java.util.function.IntSupplier;

/** Promises 42 to 48 at their edges: what is told, counts, FINDINGS, the digest. */
final class EdgesOfTold {
    private static final int NONE = PaperTrail.NONE;
    private static final int MIN = Integer.MIN_VALUE, MAX = Integer.MAX_VALUE;

    private EdgesOfTold() { }

    static void all() {
        Edges.says(42, "What the latest lay(), at(), mean(), hound(), comes(), caught(), ahead(), best(), route(), across(),"
            + " run()", EdgesOfTold::askedLatest);
        Edges.says(42, "that was not refused", EdgesOfTold::askedNotRefused);
        Edges.says(42, "(nor NONE) told", EdgesOfTold::askedNotNone);
        Edges.says(42, "0 before", EdgesOfTold::askedBefore);
        Edges.says(43, "The upper number that was told last", EdgesOfTold::upperLast);
        Edges.says(43, "0 before", EdgesOfTold::upperBefore);
        Edges.says(44, "Its lower number", EdgesOfTold::lowerLast);
        Edges.says(44, "1 before", EdgesOfTold::lowerBefore);
        Edges.says(45, "0 PLACES", EdgesOfTold::countPlaces);
        Edges.says(45, "1 HOUNDS", EdgesOfTold::countHounds);
        Edges.says(45, "2 PATHS", EdgesOfTold::countPaths);
        Edges.says(45, "3 the HEAD", EdgesOfTold::countHead);
        Edges.says(45, "4 places of THE TRAIL (0: none)", EdgesOfTold::countTrail);
        Edges.says(45, "5 FALSE ends", EdgesOfTold::countEnds);
        Edges.says(45, "6 QUICK ones (LEADERS, too)", EdgesOfTold::countQuick);
        Edges.says(45, "7 ROWS", EdgesOfTold::countRows);
        Edges.says(45, "8 TEXTS that are there", EdgesOfTold::countTexts);
        Edges.says(45, "9 kept COUNTRIES", EdgesOfTold::countKept);
        Edges.says(45, "BAD", EdgesOfTold::countBad);
        Edges.says(46, "The latest FINDING (0 before any)", EdgesOfTold::findingLatest);
        Edges.says(47, "How often a FINDING (1 .. 5) was answered", EdgesOfTold::findingsOften);
        Edges.says(47, "BAD", EdgesOfTold::findingsBad);
        Edges.says(48, "h = 17; then h = 31 h + v for each v", EdgesOfTold::digestWraps);
        Edges.says(48, "count() 0 to 9", EdgesOfTold::digestCounts);
        Edges.says(48, "PLACES in the WIND (bits)", EdgesOfTold::digestWind);
        Edges.says(48, "THE TRAIL's PLACES", EdgesOfTold::digestTrail);
        Edges.says(48, "of each FALSE end the PLACE, towards which, MINUTES", EdgesOfTold::digestEnds);
        Edges.says(48, "of each HOUND hound() 0 to 2", EdgesOfTold::digestHounds);
        Edges.says(48, "of each kept COUNTRY how many FALSE ends (-1: missing)", EdgesOfTold::digestKept);
        Edges.says(48, "of each ROW its size (-1: missing) and places", EdgesOfTold::digestRows);
        Edges.says(48, "of each TEXT likewise", EdgesOfTold::digestTexts);
    }

    private static void askedLatest() {
        PaperTrail x = Check.land("c73hq" + Check.PATHS, 0, 1, 2, 4, 5, 6);
        Check.fill(x, 1, 1000, 1002);
        Check.tells(x, "lay", x.lay(1, 1, 1004), 1, 1002);
        Check.tells(x, "at", x.at(1, 1), 1, 1004);
        Check.tells(x, "mean", x.mean(1), 1, 1002);
        Check.tells(x, "hound", x.hound(1, 1), 1, 15);
        Check.tells(x, "comes", x.comes(0, 1), 7, 7);
        Check.tells(x, "caught", x.caught(), 2, 1);
        Check.tells(x, "ahead", x.ahead(), 1, -7);
        Check.tells(x, "best", x.best(), 105, 25);
        // by 0 1 2 3 5 6 the QUICK one gains least: 9
        Check.tells(x, "route", x.route(2), 5, -6);
        Check.tells(x, "across", x.across(0, 1, 3), 1, 2);
        Check.tells(x, "run", x.run(1), 1, 15);
        int[] others = {
            x.row(2, 2), x.copy(1, 0, 2, 0, 2), x.tear(2), x.text(1, 3), x.put(1, 0, 99), x.fault(1), x.mark(1, 1),
            x.minutes(0, 1), x.head(4), x.lure(2, 0, 1), x.off(0), x.wind(1), x.paper(), x.empty(9), x.keep(0), x.on(0),
            x.hares(1), x.pack(1, 3), x.call(0), x.fewest(3), x.trails(), x.least(3), x.parted(0, 1), x.chance(0, 9),
            x.mid(0), x.kinds(3), x.gone(0), x.count(1), x.finding(), x.findings(1), x.trail(0), x.country(0)};
        Check.due("none of " + others.length + " others tells by it", x.asked(), 15);
    }

    private static void askedNotRefused() {
        PaperTrail x = Edges.rich();
        IntSupplier[] refused = {
            () -> x.lay(6, 0, 1), () -> x.lay(4, 0, 1), () -> x.lay(3, 3, 1), () -> x.at(6, 0), () -> x.at(4, 0),
            () -> x.at(3, 3), () -> x.mean(6), () -> x.mean(4), () -> x.hound(4, 0), () -> x.hound(0, 3),
            () -> x.comes(4, 0), () -> x.comes(0, 6), () -> x.route(6), () -> x.across(0, 1, 1), () -> x.across(0, 0, 6),
            () -> x.run(0), () -> x.run(MAX)};
        for (int n = 0; n < refused.length; n++) {
            Check.due("refused " + n, refused[n].getAsInt() < 0 ? 1 : 0, 1);
            Check.due("asked() behind refused " + n, x.asked(), 31337);
        }
        x.country(0);
        IntSupplier[] notNow = {
            () -> x.comes(0, 0), () -> x.caught(), () -> x.ahead(), () -> x.best(), () -> x.across(0, 0, 1), () -> x.run(1)};
        for (int n = 0; n < notNow.length; n++) {
            Check.due("not now " + n, notNow[n].getAsInt(), PaperTrail.STATE);
            Check.due("asked() behind not now " + n, x.asked(), 31337);
        }
    }

    private static void askedNotNone() {
        PaperTrail x = Check.land("c29h-011", 0, 1);
        Check.fill(x, 1, 31337);
        x.at(1, 0);
        Check.none(x, "caught", () -> x.caught());
        Check.none(x, "best", () -> x.best());
        Check.due("asked()", x.asked(), 31337);
        PaperTrail y = Edges.rich();
        Check.none(y, "across", () -> y.across(0, 0, 5));
        Check.due("asked()", y.asked(), 31337);
        PaperTrail z = Check.land("c20-011", 0, 1);
        Check.fill(z, 1, 31337);
        z.at(1, 0);
        Check.none(z, "run", () -> z.run(1));
        Check.none(z, "route", () -> z.route(1));
        Check.due("asked()", z.asked(), 31337);
        Check.tells(y, "what is told may be NONE", y.comes(0, 5), 29, NONE);
        y.country(0);
        y.at(3, 1);
        Check.tells(y, "what is told may be NONE", y.hound(0, 1), 1, NONE);
    }

    private static void askedBefore() {
        PaperTrail x = new PaperTrail();
        Check.due("asked()", x.asked(), 0);
        x.at(0, 0);
        x.row(0, 9);
        x.caught();
        Check.due("behind calls that tell nothing", x.asked(), 0);
        x.lay(0, 0, 5);
        Check.due("a told 0", x.asked(), 0);
        x.lay(0, 0, 5);
        Check.due("a told 5", x.asked(), 5);
        Check.due("asked() again", x.asked(), 5);
        Check.due("of another object", new PaperTrail().asked(), 0);
    }

    private static void upperLast() {
        PaperTrail x = Edges.rich();
        Check.due("by chance()", x.upper(), 5);
        x.chance(0, 0);
        Check.due("0", x.upper(), 0);
        x.mid(0);
        Check.due("by mid(): 25, 2 in the WIND, 6", x.upper(), 33);
        x.chance(4, 0);
        x.chance(0, 1000);
        x.mid(4);
        Check.due("what is refused tells nothing", x.upper(), 33);
        x.hound(0, 1);
        x.run(1);
        Check.due("nor do other calls", x.upper(), 33);
        x.country(0);
        x.chance(0, 1);
        x.mid(0);
        Check.due("nor does STATE, or a COUNTRY anew", x.upper(), 33);
    }

    private static void upperBefore() {
        PaperTrail x = new PaperTrail();
        Check.due("upper()", x.upper(), 0);
        x.chance(0, 0);
        x.mid(0);
        Check.due("behind what is refused", x.upper(), 0);
    }

    private static void lowerLast() {
        PaperTrail x = Edges.rich();
        Check.due("by chance()", x.lower(), 8);
        x.chance(0, 999);
        Check.due("1 by 1", x.lower(), 1);
        x.chance(0, 27);
        Check.due("1 by 8", x.lower(), 8);
        x.chance(0, 1000);
        x.mid(4);
        Check.due("what is refused tells nothing", x.lower(), 8);
        x.chance(0, 0);
        Check.due("0 by 1", x.lower(), 1);
        x.mid(0);
        Check.due("by mid()", x.lower(), 1);
    }

    private static void lowerBefore() {
        PaperTrail x = new PaperTrail();
        Check.due("lower()", x.lower(), 1);
        x.chance(0, 0);
        x.mid(0);
        Check.due("behind what is refused", x.lower(), 1);
    }

    private static void countPlaces() {
        Check.due("at first", new PaperTrail().count(0), 0);
        for (int n = 2; n <= 7; n++) {
            Check.due("of " + n, Check.land("c" + n + "0").count(0), n);
        }
    }

    private static void countHounds() {
        String hounds = "";
        for (int n = 0; n <= 4; n++) {
            Check.due("of " + n, Check.land("c20" + hounds).count(1), n);
            hounds += "t";
        }
    }

    private static void countPaths() {
        String text = "c70";
        String[] paths = "-011-021-031-041-051-061-121-131-141-151-161-231".split("(?=-)");
        for (int n = 0; n <= 12; n++) {
            Check.due("of " + n, Check.land(text).count(2), n);
            text += n < 12 ? paths[n] : "";
        }
    }

    private static void countHead() {
        Check.due("at first", new PaperTrail().count(3), 0);
        PaperTrail x = Check.land("c29");
        Check.due("of 9", x.count(3), 9);
        x.head(0);
        Check.due("of 0", x.count(3), 0);
        x.head(10);
        Check.due("as it was", x.count(3), 0);
    }

    private static void countTrail() {
        PaperTrail x = Check.land("c70-011-121-231-341-451-561-061");
        Check.due("none", x.count(4), 0);
        Check.fill(x, 0, 0, 6);
        x.trail(0);
        Check.due("2", x.count(4), 2);
        Check.fill(x, 0, 0, 1, 2, 3, 4, 5, 6);
        x.trail(0);
        Check.due("7", x.count(4), 7);
        x.country(0);
        Check.due("none again", x.count(4), 0);
    }

    private static void countEnds() {
        PaperTrail x = Edges.rich();
        Check.due("3", x.count(5), 3);
        int[][] ends = {{1, 0}, {2, 1}, {2, 3}, {4, 1}, {4, 2}};
        for (int n = 0; n < 5; n++) {
            x.lure(ends[n][0], ends[n][1], 1);
            Check.due("one more", x.count(5), 4 + n);
        }
        x.lure(4, 3, 1);
        Check.due("8 at most", x.count(5), 8);
        x.off(1);
        Check.due("1", x.count(5), 1);
        x.off(0);
        Check.due("none", x.count(5), 0);
    }

    private static void countQuick() {
        String[] hounds = {"", "h", "s", "a", "t", "q", "l", "ql", "hqst", "llqq", "aqsl"};
        int[] many = {0, 0, 0, 0, 0, 1, 1, 2, 1, 4, 2};
        for (int n = 0; n < hounds.length; n++) {
            Check.due("of '" + hounds[n] + "'", Check.land("c20" + hounds[n]).count(6), many[n]);
        }
    }

    private static void countRows() {
        PaperTrail x = new PaperTrail();
        for (int r = 0; r < 6; r++) {
            Check.due("ROWS", x.count(7), r);
            x.row(5 - r, r % 2);
        }
        Check.due("all 6", x.count(7), 6);
        x.row(0, 3);
        Check.due("one anew", x.count(7), 6);
        x.tear(0);
        Check.due("one torn", x.count(7), 5);
    }

    private static void countTexts() {
        PaperTrail x = new PaperTrail();
        for (int t = 0; t < 4; t++) {
            Check.due("TEXTS", x.count(8), t);
            x.text(3 - t, 80 * (t % 2));
        }
        Check.due("all 4", x.count(8), 4);
        x.text(0, 3);
        Check.due("one anew", x.count(8), 4);
    }

    private static void countKept() {
        PaperTrail x = Check.land("c20");
        for (int k = 0; k < 3; k++) {
            Check.due("kept", x.count(9), k);
            x.keep(2 - k);
        }
        Check.due("all 3", x.count(9), 3);
        x.keep(1);
        x.on(1);
        Check.due("one anew", x.count(9), 3);
        x.country(0);
        Check.due("gone", x.count(9), 0);
    }

    private static void countBad() {
        PaperTrail x = Edges.rich();
        for (int what : Edges.outside(10)) {
            Check.bad(x, "count(" + what + ")", () -> x.count(what));
        }
    }

    private static void findingLatest() {
        PaperTrail x = new PaperTrail();
        Check.due("before any", x.finding(), 0);
        x.row(6, 0);
        x.caught();
        Check.due("BAD, STATE are none", x.finding(), 0);
        int[] found = {Check.SIZE, Check.NOTHING, Check.NOUGHT, Check.BEYOND, Check.UNLIKE};
        IntSupplier[] calls = {
            () -> x.row(0, -1), () -> x.at(0, 0), () -> x.row(0, 0) + x.mean(0), () -> x.at(0, 0), () -> unlike(x)};
        for (int n = 0; n < 5; n++) {
            Check.due("call " + n, calls[n].getAsInt(), PaperTrail.FINDING);
            Check.due("finding() " + n, x.finding(), found[n]);
        }
        x.row(0, 3);
        x.at(0, 0);
        x.row(9, 9);
        x.minutes(0, 1);
        x.country(1);
        Check.due("the last call's", x.finding(), Check.NOTHING);
        Check.due("finding() again", x.finding(), Check.NOTHING);
    }

    private static int unlike(PaperTrail x) {
        Check.write(x, 0, "c20h");
        x.country(0);
        return x.mark(0, 1);
    }

    private static void findingsOften() {
        PaperTrail x = new PaperTrail();
        x.row(5, 0);
        for (int n = 0; n < 60; n++) {
            x.at(0, 0);
            x.fault(0);
            x.at(5, 0);
            x.mean(5);
            x.row(0, -1);
        }
        int[] want = {0, 120, 60, 0, 60, 60};
        for (int f = 1; f <= 5; f++) {
            Check.due("findings(" + f + ")", x.findings(f), want[f]);
        }
        Check.due("UNLIKE", unlike(x), PaperTrail.FINDING);
        Check.due("findings(3)", x.findings(3), 1);
        Check.due("by a COUNTRY anew they stay", x.findings(1), 120);
        Check.due("of another object", new PaperTrail().findings(1), 0);
    }

    private static void findingsBad() {
        PaperTrail x = Edges.rich();
        x.at(4, 0);
        for (int f : new int[] {0, 6, -1, MIN, MAX}) {
            Check.bad(x, "findings(" + f + ")", () -> x.findings(f));
        }
    }

    /** What the digest is due to be, told part by part by other calls and by what was laid. */
    private static final class Parts {
        final List<Long> all = new ArrayList<>();

        Parts add(long... values) {
            for (long v : values) {
                all.add(v);
            }
            return this;
        }

        Parts missing(int many) {
            for (int n = 0; n < many; n++) {
                all.add(-1L);
            }
            return this;
        }

        void due(String what, PaperTrail x) {
            java.math.BigInteger h = java.math.BigInteger.valueOf(17);
            for (long v : all) {
                h = h.multiply(java.math.BigInteger.valueOf(31)).add(java.math.BigInteger.valueOf(v));
            }
            Check.due(what, x.digest(), h.longValue());
            Check.due(what + ", again", x.digest(), h.longValue());
        }
    }

    private static void digestWraps() {
        PaperTrail x = new PaperTrail();
        Parts parts = new Parts().add(0, 0, 0, 0, 0, 0, 0, 6, 4, 0, 0).missing(3);
        for (int r = 0; r < 6; r++) {
            x.row(r, 40);
            parts.add(40);
            for (int i = 0; i < 40; i++) {
                int v = i % 2 == 0 ? MAX - i : MIN + r;
                x.lay(r, i, v);
                parts.add(v);
            }
        }
        for (int t = 0; t < 4; t++) {
            x.text(t, 80);
            parts.add(80);
            for (int i = 0; i < 80; i++) {
                x.put(t, i, 3 * i + t);
                parts.add((byte) (3 * i + t));
            }
        }
        parts.due("all full", x);
        new Parts().add(0, 0, 0, 0, 0, 0, 0, 0, 0, 0, 0).missing(13).due("all missing", new PaperTrail());
        Check.due("asked() is not told by it", x.asked(), 0);
    }

    private static void digestCounts() {
        PaperTrail x = Check.land("c79qlhs" + Check.PATHS);
        x.keep(0);
        x.row(2, 0);
        new Parts().add(7, 4, 10, 9, 0, 0, 2, 1, 1, 1, 0)
            .add(1, NONE, 0, 4, NONE, 0, 0, NONE, 0, 2, NONE, 0)
            .add(0, -1, -1).add(-1, -1, 0, -1, -1, -1)
            .add(textParts("c79qlhs" + Check.PATHS)).missing(3).due("counts", x);
    }

    private static long[] textParts(String text) {
        long[] values = new long[text.length() + 1];
        values[0] = text.length();
        for (int i = 0; i < text.length(); i++) {
            values[i + 1] = text.charAt(i);
        }
        return values;
    }

    private static void digestWind() {
        for (int set : new int[] {0, 1, 2, 4, 7}) {
            PaperTrail x = Check.land("c30");
            x.wind(set);
            new Parts().add(3, 0, 0, 0, 0, 0, 0, 0, 1, 0, set).missing(3).missing(6)
                .add(textParts("c30")).missing(3).due("WIND " + set, x);
        }
    }

    private static void digestTrail() {
        String text = "c40-021-211-131-031";
        PaperTrail x = Check.land(text, 0, 2, 1, 3);
        x.tear(0);
        new Parts().add(4, 0, 4, 0, 4, 0, 0, 0, 1, 0, 0).add(0, 2, 1, 3).missing(3).missing(6)
            .add(textParts(text)).missing(3).due("0 2 1 3", x);
        Check.fill(x, 0, 0, 3);
        x.trail(0);
        new Parts().add(4, 0, 4, 0, 2, 0, 0, 1, 1, 0, 0).add(0, 3).missing(3).add(2, 0, 3).missing(5)
            .add(textParts(text)).missing(3).due("0 3", x);
    }

    private static void digestEnds() {
        String text = "c40-021-211-131-031";
        PaperTrail x = Check.land(text, 0, 2, 1, 3);
        x.tear(0);
        x.lure(2, 0, 5);
        x.lure(0, 3, 1);
        x.lure(1, 2, 4);
        new Parts().add(4, 0, 4, 0, 4, 3, 0, 0, 1, 0, 0).add(0, 2, 1, 3).add(2, 0, 5, 0, 3, 1, 1, 2, 4).missing(3).missing(6)
            .add(textParts(text)).missing(3).due("three, as they were laid", x);
        x.off(1);
        new Parts().add(4, 0, 4, 0, 4, 1, 0, 0, 1, 0, 0).add(0, 2, 1, 3).add(2, 0, 5).missing(3).missing(6)
            .add(textParts(text)).missing(3).due("one is left", x);
    }

    private static void digestHounds() {
        String text = "c32hqst-013-123";
        PaperTrail x = Check.land(text, 0, 1, 2);
        x.tear(0);
        x.wind(2);
        // at 1 in 5 4 8 9; they leave in 7 6 8 9
        new Parts().add(3, 4, 2, 2, 3, 0, 1, 0, 1, 0, 2).add(0, 1, 2).add(0, 10, 2, 1, 8, 2, 2, 14, 0, 5, 16, 0).missing(3)
            .missing(6).add(textParts(text)).missing(3).due("four HOUNDS", x);
        x.country(0);
        new Parts().add(3, 4, 2, 2, 0, 0, 1, 0, 1, 0, 0).add(0, NONE, 0, 1, NONE, 0, 2, NONE, 0, 5, NONE, 0).missing(3)
            .missing(6).add(textParts(text)).missing(3).due("without a TRAIL", x);
    }

    private static void digestKept() {
        PaperTrail x = Check.land("c30-011-121", 0, 1, 2);
        x.tear(0);
        x.keep(0);
        x.lure(1, 0, 1);
        x.keep(2);
        x.off(0);
        new Parts().add(3, 0, 2, 0, 3, 0, 0, 0, 1, 2, 0).add(0, 1, 2).add(0, -1, 1).missing(6)
            .add(textParts("c30-011-121")).missing(3).due("the first and the last", x);
        x.lure(1, 0, 1);
        x.keep(1);
        new Parts().add(3, 0, 2, 0, 3, 1, 0, 0, 1, 3, 0).add(0, 1, 2).add(1, 0, 1).add(0, 1, 1).missing(6)
            .add(textParts("c30-011-121")).missing(3).due("all", x);
    }

    private static void digestRows() {
        PaperTrail x = new PaperTrail();
        x.row(0, 0);
        Check.fill(x, 3, MIN, -1, MAX);
        Check.fill(x, 5, 9);
        x.row(4, 2);
        x.tear(4);
        new Parts().add(0, 0, 0, 0, 0, 0, 0, 3, 0, 0, 0).missing(3).add(0).missing(2).add(3, MIN, -1, MAX).missing(1).add(1, 9)
            .missing(4).due("an empty one, missing ones", x);
        x.row(3, 2);
        new Parts().add(0, 0, 0, 0, 0, 0, 0, 3, 0, 0, 0).missing(3).add(0).missing(2).add(2, 0, 0).missing(1).add(1, 9)
            .missing(4).due("one made shorter", x);
    }

    private static void digestTexts() {
        PaperTrail x = new PaperTrail();
        x.text(0, 0);
        x.text(2, 3);
        x.put(2, 0, 127);
        x.put(2, 1, 128);
        new Parts().add(0, 0, 0, 0, 0, 0, 0, 0, 2, 0, 0).missing(3).missing(6).add(0, -1, 3, 127, -128, 32, -1)
            .due("an empty one, missing ones", x);
    }
}
