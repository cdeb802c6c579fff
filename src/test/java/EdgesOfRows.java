/** Promises 1 to 9 at their edges: a new object, ROWS, TEXTS. */
final class EdgesOfRows {
    private static final int MIN = Integer.MIN_VALUE, MAX = Integer.MAX_VALUE;

    private EdgesOfRows() { }

    static void all() {
        Edges.says(1, "No ROWS", EdgesOfRows::newWithoutRows);
        Edges.says(1, "TEXTS", EdgesOfRows::newWithoutTexts);
        Edges.says(1, "PLACES", EdgesOfRows::newWithoutPlaces);
        Edges.says(1, "HOUNDS", EdgesOfRows::newWithoutHounds);
        Edges.says(1, "no TRAIL", EdgesOfRows::newWithoutTrail);
        Edges.says(2, "A ROW is there with n ints 0: n", EdgesOfRows::rowIsThere);
        Edges.says(2, "BAD: also n above 40", EdgesOfRows::rowBad);
        Edges.says(2, "SIZE: below 0", EdgesOfRows::rowSize);
        Edges.says(3, "Place i of a ROW is v: what it was, told by asked(): 1", EdgesOfRows::layTells);
        Edges.says(3, "BAD", EdgesOfRows::layBad);
        Edges.says(3, "NOTHING", EdgesOfRows::layNothing);
        Edges.says(3, "BEYOND", EdgesOfRows::layBeyond);
        Edges.says(4, "Place i of a ROW, told by asked(): 1", EdgesOfRows::atTells);
        Edges.says(4, "BAD", EdgesOfRows::atBad);
        Edges.says(4, "NOTHING", EdgesOfRows::atNothing);
        Edges.says(4, "BEYOND", EdgesOfRows::atBeyond);
        Edges.says(5, "A ROW is missing: 1", EdgesOfRows::tearMissing);
        Edges.says(5, "BAD", EdgesOfRows::tearBad);
        Edges.says(5, "NOTHING", EdgesOfRows::tearNothing);
        Edges.says(6, "n places of a ROW, from one on, come to those of another one", EdgesOfRows::copyAnother);
        Edges.says(6, "(perhaps itself) from one on, as if taken ahead: 1", EdgesOfRows::copyItself);
        Edges.says(6, "BAD", EdgesOfRows::copyBad);
        Edges.says(6, "SIZE: n below 0", EdgesOfRows::copySize);
        Edges.says(6, "NOTHING: either", EdgesOfRows::copyNothing);
        Edges.says(6, "BEYOND: not so many there", EdgesOfRows::copyBeyond);
        Edges.says(7, "The mean of a ROW's ints", EdgesOfRows::meanOfInts);
        Edges.says(7, "cut, told by asked(): 1", EdgesOfRows::meanCut);
        Edges.says(7, "BAD", EdgesOfRows::meanBad);
        Edges.says(7, "NOTHING", EdgesOfRows::meanNothing);
        Edges.says(7, "NOUGHT", EdgesOfRows::meanNought);
        Edges.says(8, "A TEXT is there with n blanks: n", EdgesOfRows::textIsThere);
        Edges.says(8, "BAD: also n above 80", EdgesOfRows::textBad);
        Edges.says(8, "SIZE: below 0", EdgesOfRows::textSize);
        Edges.says(9, "Byte i of a TEXT is v, cut to a byte", EdgesOfRows::putCuts);
        Edges.says(9, "what it was, and 1000 more", EdgesOfRows::putTells);
        Edges.says(9, "BAD", EdgesOfRows::putBad);
        Edges.says(9, "NOTHING", EdgesOfRows::putNothing);
        Edges.says(9, "BEYOND", EdgesOfRows::putBeyond);
    }

    private static void newWithoutRows() {
        PaperTrail x = new PaperTrail();
        Check.due("count(7)", x.count(7), 0);
        for (int r = 0; r < 6; r++) {
            int n = r;
            Check.found(x, "tear(" + r + ")", () -> x.tear(n), Check.NOTHING);
            Check.found(x, "mean(" + r + ")", () -> x.mean(n), Check.NOTHING);
        }
    }

    private static void newWithoutTexts() {
        PaperTrail x = new PaperTrail();
        Check.due("count(8)", x.count(8), 0);
        for (int t = 0; t < 4; t++) {
            int n = t;
            Check.found(x, "put(" + t + ")", () -> x.put(n, 0, 32), Check.NOTHING);
            Check.found(x, "country(" + t + ")", () -> x.country(n), Check.NOTHING);
        }
    }

    private static void newWithoutPlaces() {
        PaperTrail x = new PaperTrail();
        Check.due("count(0)", x.count(0), 0);
        Check.due("count(2)", x.count(2), 0);
        Check.due("count(3)", x.count(3), 0);
        Check.state(x, "head(0)", () -> x.head(0));
        Check.state(x, "trail(0)", () -> x.trail(0));
        Check.state(x, "keep(0)", () -> x.keep(0));
        Check.state(x, "trails()", () -> x.trails());
        Check.state(x, "least(0)", () -> x.least(0));
        Check.state(x, "route(0)", () -> x.route(0));
        Check.bad(x, "minutes(0, 1)", () -> x.minutes(0, 1));
        Check.bad(x, "lure(0, 1, 1)", () -> x.lure(0, 1, 1));
        Check.bad(x, "wind(1)", () -> x.wind(1));
        Check.due("wind(0)", x.wind(0), 0);
        Check.found(x, "on(0)", () -> x.on(0), Check.NOTHING);
        Check.due("count(9)", x.count(9), 0);
    }

    private static void newWithoutHounds() {
        PaperTrail x = new PaperTrail();
        Check.due("count(1)", x.count(1), 0);
        Check.due("count(6)", x.count(6), 0);
        Check.bad(x, "hound(0, 0)", () -> x.hound(0, 0));
        Check.bad(x, "mark(0, 1)", () -> x.mark(0, 1));
        Check.bad(x, "comes(0, 0)", () -> x.comes(0, 0));
        Check.bad(x, "across(0, 0, 1)", () -> x.across(0, 0, 1));
        Check.bad(x, "chance(0, 0)", () -> x.chance(0, 0));
        Check.bad(x, "mid(0)", () -> x.mid(0));
        Check.bad(x, "gone(0)", () -> x.gone(0));
    }

    private static void newWithoutTrail() {
        PaperTrail x = new PaperTrail();
        Check.due("count(4)", x.count(4), 0);
        Check.due("count(5)", x.count(5), 0);
        Check.due("paper()", x.paper(), 0);
        Check.due("off(0)", x.off(0), 0);
        Check.bad(x, "off(1)", () -> x.off(1));
        Check.state(x, "empty(0)", () -> x.empty(0));
        Check.state(x, "hares(0)", () -> x.hares(0));
        Check.state(x, "pack(0, 0)", () -> x.pack(0, 0));
        Check.state(x, "caught()", () -> x.caught());
        Check.state(x, "ahead()", () -> x.ahead());
        Check.state(x, "call(0)", () -> x.call(0));
        Check.state(x, "best()", () -> x.best());
        Check.state(x, "fewest(0)", () -> x.fewest(0));
        Check.state(x, "parted(0, 1)", () -> x.parted(0, 1));
        Check.state(x, "run(1)", () -> x.run(1));
        Check.state(x, "kinds(0)", () -> x.kinds(0));
    }

    private static void rowIsThere() {
        PaperTrail x = new PaperTrail();
        for (int r = 0; r < 6; r++) {
            for (int n : new int[] {40, 0, 1, 39, 40, 2}) {
                Check.due("row(" + r + ", " + n + ")", x.row(r, n), n);
                Check.holds(x, "row(" + r + ", " + n + ")", r, new int[n]);
                for (int i = 0; i < n; i++) {
                    x.lay(r, i, i + 1);
                }
            }
            Check.due("one ROW more is there", x.count(7), r + 1);
        }
        Check.holds(x, "the others stay", 0, 1, 2);
    }

    private static void rowBad() {
        PaperTrail x = Edges.rich();
        for (int r : Edges.outside(6)) {
            Check.bad(x, "row(" + r + ", 0)", () -> x.row(r, 0));
            Check.bad(x, "BAD ahead of SIZE: row(" + r + ", -1)", () -> x.row(r, -1));
        }
        for (int n : new int[] {41, 42, MAX}) {
            Check.bad(x, "row(3, " + n + ")", () -> x.row(3, n));
            Check.bad(x, "row(4, " + n + ")", () -> x.row(4, n));
        }
        Check.holds(x, "it stays as it was", 3, 5, 31337, 7);
        Check.due("40 are not above", x.row(3, 40), 40);
    }

    private static void rowSize() {
        PaperTrail x = Edges.rich();
        for (int n : new int[] {-1, -2, MIN}) {
            Check.found(x, "row(3, " + n + ")", () -> x.row(3, n), Check.SIZE);
            Check.found(x, "row(4, " + n + ")", () -> x.row(4, n), Check.SIZE);
        }
        Check.holds(x, "it stays as it was", 3, 5, 31337, 7);
        Check.due("0 is not below", x.row(3, 0), 0);
    }

    private static void layTells() {
        PaperTrail x = new PaperTrail();
        x.row(5, 40);
        int was = 0;
        for (int v : new int[] {1, -1, MAX, MIN, PaperTrail.NONE, 0}) {
            Check.tells(x, "lay(5, 0, " + v + ")", x.lay(5, 0, v), 1, was);
            Check.tells(x, "lay(5, 39, " + v + ")", x.lay(5, 39, v), 1, was);
            was = v;
        }
        x.lay(5, 39, 8);
        Check.tells(x, "the place ahead stays", x.at(5, 38), 1, 0);
        Check.tells(x, "the place itself", x.at(5, 39), 1, 8);
    }

    private static void layBad() {
        PaperTrail x = Edges.rich();
        for (int r : Edges.outside(6)) {
            Check.bad(x, "lay(" + r + ", 0, 1)", () -> x.lay(r, 0, 1));
            Check.bad(x, "lay(" + r + ", -1, 1)", () -> x.lay(r, -1, 1));
        }
    }

    private static void layNothing() {
        PaperTrail x = Edges.rich();
        Check.found(x, "lay(4, 0, 1)", () -> x.lay(4, 0, 1), Check.NOTHING);
        Check.found(x, "NOTHING ahead of BEYOND", () -> x.lay(4, -1, 1), Check.NOTHING);
        Check.found(x, "NOTHING ahead of BEYOND", () -> x.lay(4, 40, 1), Check.NOTHING);
        x.tear(3);
        Check.found(x, "a torn one", () -> x.lay(3, 0, 1), Check.NOTHING);
    }

    private static void layBeyond() {
        PaperTrail x = Edges.rich();
        for (int i : Edges.outside(3)) {
            Check.found(x, "lay(3, " + i + ", 9)", () -> x.lay(3, i, 9), Check.BEYOND);
        }
        Check.tells(x, "the last one", x.lay(3, 2, 9), 1, 7);
        x.row(4, 0);
        Check.found(x, "an empty one", () -> x.lay(4, 0, 1), Check.BEYOND);
        x.row(4, 40);
        Check.found(x, "behind a full one", () -> x.lay(4, 40, 1), Check.BEYOND);
        x.row(4, 2);
        Check.found(x, "behind one made shorter", () -> x.lay(4, 2, 1), Check.BEYOND);
    }

    private static void atTells() {
        PaperTrail x = new PaperTrail();
        x.row(0, 40);
        for (int v : new int[] {MIN, MAX, -1, 0}) {
            x.lay(0, 0, v);
            x.lay(0, 39, v);
            x.lay(0, 1, 5);
            Check.tells(x, "at(0, 0) of " + v, x.at(0, 0), 1, v);
            Check.tells(x, "at(0, 1)", x.at(0, 1), 1, 5);
            Check.tells(x, "at(0, 39) of " + v, x.at(0, 39), 1, v);
            Check.tells(x, "at() takes nothing away", x.at(0, 39), 1, v);
        }
    }

    private static void atBad() {
        PaperTrail x = Edges.rich();
        for (int r : Edges.outside(6)) {
            Check.bad(x, "at(" + r + ", 0)", () -> x.at(r, 0));
            Check.bad(x, "at(" + r + ", -1)", () -> x.at(r, -1));
        }
    }

    private static void atNothing() {
        PaperTrail x = Edges.rich();
        Check.found(x, "at(4, 0)", () -> x.at(4, 0), Check.NOTHING);
        Check.found(x, "NOTHING ahead of BEYOND", () -> x.at(4, -1), Check.NOTHING);
        Check.found(x, "NOTHING ahead of BEYOND", () -> x.at(4, 40), Check.NOTHING);
        x.tear(3);
        Check.found(x, "a torn one", () -> x.at(3, 0), Check.NOTHING);
    }

    private static void atBeyond() {
        PaperTrail x = Edges.rich();
        for (int i : Edges.outside(3)) {
            Check.found(x, "at(3, " + i + ")", () -> x.at(3, i), Check.BEYOND);
        }
        x.row(4, 0);
        Check.found(x, "an empty one", () -> x.at(4, 0), Check.BEYOND);
        x.row(4, 40);
        Check.found(x, "behind a full one", () -> x.at(4, 40), Check.BEYOND);
    }

    private static void tearMissing() {
        PaperTrail x = new PaperTrail();
        for (int r = 0; r < 6; r++) {
            x.row(r, r == 0 ? 0 : 40);
        }
        for (int r = 0; r < 6; r++) {
            int n = r;
            Check.due("tear(" + r + ")", x.tear(r), 1);
            Check.due("count(7)", x.count(7), 5 - r);
            Check.found(x, "at(" + r + ")", () -> x.at(n, 0), Check.NOTHING);
        }
        Check.fill(x, 2, 6, 7);
        x.tear(2);
        x.row(2, 2);
        Check.holds(x, "made again, its ints are 0", 2, 0, 0);
    }

    private static void tearBad() {
        PaperTrail x = Edges.rich();
        for (int r : Edges.outside(6)) {
            Check.bad(x, "tear(" + r + ")", () -> x.tear(r));
        }
    }

    private static void tearNothing() {
        PaperTrail x = Edges.rich();
        Check.found(x, "never made", () -> x.tear(4), Check.NOTHING);
        x.tear(3);
        Check.found(x, "torn already", () -> x.tear(3), Check.NOTHING);
        x.row(3, 0);
        Check.due("an empty one is there", x.tear(3), 1);
    }

    private static int[] rising(int n, int first) {
        int[] ints = new int[n];
        for (int i = 0; i < n; i++) {
            ints[i] = first + i;
        }
        return ints;
    }

    private static void copyAnother() {
        PaperTrail x = new PaperTrail();
        Check.fill(x, 0, rising(40, 1));
        x.row(5, 40);
        Check.due("all 40", x.copy(0, 0, 5, 0, 40), 1);
        Check.holds(x, "all 40", 5, rising(40, 1));
        Check.holds(x, "from where they come they stay", 0, rising(40, 1));
        x.row(5, 3);
        Check.due("the last one to the last one", x.copy(0, 39, 5, 2, 1), 1);
        Check.holds(x, "the last one", 5, 0, 0, 40);
        Check.due("the first one to the first one", x.copy(0, 0, 5, 0, 1), 1);
        Check.holds(x, "the first one", 5, 1, 0, 40);
        Check.due("none", x.copy(0, 7, 5, 1, 0), 1);
        Check.due("none, behind both ends", x.copy(0, 40, 5, 3, 0), 1);
        Check.holds(x, "none", 5, 1, 0, 40);
        x.row(4, 0);
        Check.due("none of an empty one", x.copy(4, 0, 5, 0, 0), 1);
        Check.due("none to an empty one", x.copy(5, 0, 4, 0, 0), 1);
        Check.due("asked() is not told by it", x.copy(0, 0, 5, 0, 1) * 0 + x.asked(), 40);
    }

    private static void copyItself() {
        PaperTrail x = new PaperTrail();
        Check.fill(x, 0, 1, 2, 3, 4, 5);
        Check.due("up by one", x.copy(0, 0, 0, 1, 4), 1);
        Check.holds(x, "up by one", 0, 1, 1, 2, 3, 4);
        Check.fill(x, 0, 1, 2, 3, 4, 5);
        Check.due("down by one", x.copy(0, 1, 0, 0, 4), 1);
        Check.holds(x, "down by one", 0, 2, 3, 4, 5, 5);
        Check.due("on itself", x.copy(0, 0, 0, 0, 5), 1);
        Check.holds(x, "on itself", 0, 2, 3, 4, 5, 5);
        x.row(1, 0);
        Check.due("an empty one on itself", x.copy(1, 0, 1, 0, 0), 1);
    }

    private static void copyBad() {
        PaperTrail x = Edges.rich();
        for (int r : Edges.outside(6)) {
            Check.bad(x, "from " + r, () -> x.copy(r, 0, 3, 0, 1));
            Check.bad(x, "to " + r, () -> x.copy(3, 0, r, 0, 1));
            Check.bad(x, "BAD ahead of SIZE, from " + r, () -> x.copy(r, 0, 3, 0, -1));
            Check.bad(x, "BAD ahead of SIZE, to " + r, () -> x.copy(3, 0, r, 0, -1));
            Check.bad(x, "BAD ahead of NOTHING, from " + r, () -> x.copy(r, 0, 4, 0, 1));
            Check.bad(x, "BAD ahead of NOTHING, to " + r, () -> x.copy(4, 0, r, 0, 1));
            Check.bad(x, "BAD ahead of BEYOND, to " + r, () -> x.copy(3, 9, r, 0, 1));
        }
    }

    private static void copySize() {
        PaperTrail x = Edges.rich();
        for (int n : new int[] {-1, MIN}) {
            Check.found(x, n + " places", () -> x.copy(3, 0, 0, 0, n), Check.SIZE);
            Check.found(x, n + " places from behind", () -> x.copy(3, 3, 0, 3, n), Check.SIZE);
            Check.found(x, "SIZE ahead of NOTHING, " + n, () -> x.copy(4, 0, 3, 0, n), Check.SIZE);
            Check.found(x, "SIZE ahead of NOTHING, " + n, () -> x.copy(3, 0, 4, 0, n), Check.SIZE);
            Check.found(x, "SIZE ahead of BEYOND, " + n, () -> x.copy(3, -1, 0, 99, n), Check.SIZE);
        }
        Check.due("0 is not below", x.copy(3, 0, 0, 0, 0), 1);
    }

    private static void copyNothing() {
        PaperTrail x = Edges.rich();
        Check.found(x, "from none", () -> x.copy(4, 0, 3, 0, 1), Check.NOTHING);
        Check.found(x, "to none", () -> x.copy(3, 0, 4, 0, 1), Check.NOTHING);
        Check.found(x, "none to none", () -> x.copy(4, 0, 5, 0, 1), Check.NOTHING);
        Check.found(x, "none to itself", () -> x.copy(4, 0, 4, 0, 0), Check.NOTHING);
        Check.found(x, "NOTHING ahead of BEYOND, from", () -> x.copy(4, 0, 3, 9, 1), Check.NOTHING);
        Check.found(x, "NOTHING ahead of BEYOND, to", () -> x.copy(3, 9, 4, 0, 1), Check.NOTHING);
    }

    private static void copyBeyond() {
        PaperTrail x = Edges.rich();
        x.row(4, 40);
        Check.found(x, "one too many from the first on", () -> x.copy(3, 0, 4, 0, 4), Check.BEYOND);
        Check.found(x, "one too many from the last on", () -> x.copy(3, 2, 4, 0, 2), Check.BEYOND);
        Check.found(x, "one from behind", () -> x.copy(3, 3, 4, 0, 1), Check.BEYOND);
        Check.found(x, "one to behind", () -> x.copy(4, 0, 3, 3, 1), Check.BEYOND);
        Check.found(x, "one too many to the first on", () -> x.copy(4, 0, 3, 0, 4), Check.BEYOND);
        Check.found(x, "one too many to the last on", () -> x.copy(4, 0, 3, 2, 2), Check.BEYOND);
        Check.found(x, "from below", () -> x.copy(3, -1, 4, 0, 1), Check.BEYOND);
        Check.found(x, "to below", () -> x.copy(4, 0, 3, -1, 1), Check.BEYOND);
        Check.found(x, "none from below", () -> x.copy(3, -1, 4, 0, 0), Check.BEYOND);
        Check.found(x, "none to below", () -> x.copy(4, 0, 3, -1, 0), Check.BEYOND);
        Check.found(x, "none from far behind", () -> x.copy(3, 4, 4, 0, 0), Check.BEYOND);
        Check.found(x, "none to far behind", () -> x.copy(4, 0, 3, 4, 0), Check.BEYOND);
        Check.found(x, "a sum that wraps around, from", () -> x.copy(3, 1, 4, 0, MAX), Check.BEYOND);
        Check.found(x, "a sum that wraps around, from", () -> x.copy(3, MAX, 4, 0, 1), Check.BEYOND);
        Check.found(x, "a sum that wraps around, from", () -> x.copy(3, MAX, 4, 0, MAX), Check.BEYOND);
        Check.found(x, "a sum that wraps around, to", () -> x.copy(4, 0, 3, MAX, 1), Check.BEYOND);
        Check.found(x, "a difference that wraps around", () -> x.copy(3, MIN, 4, MIN, MAX), Check.BEYOND);
        Check.due("just as many as there are", x.copy(3, 0, 4, 37, 3), 1);
    }

    private static void meanOfInts() {
        PaperTrail x = new PaperTrail();
        x.row(0, 40);
        Check.tells(x, "of 40 noughts", x.mean(0), 1, 0);
        for (int v : new int[] {MAX, MIN}) {
            for (int i = 0; i < 40; i++) {
                x.lay(0, i, v);
            }
            Check.tells(x, "of 40 times " + v, x.mean(0), 1, v);
        }
        Check.fill(x, 1, MIN);
        Check.tells(x, "of one", x.mean(1), 1, MIN);
        Check.fill(x, 1, MAX, MIN);
        Check.tells(x, "of both ends", x.mean(1), 1, 0);
        Check.fill(x, 1, MAX, 1);
        Check.tells(x, "a sum above all ints", x.mean(1), 1, 1 << 30);
        Check.fill(x, 1, MIN, -2);
        Check.tells(x, "a sum below all ints", x.mean(1), 1, -(1 << 30) - 1);
    }

    private static void meanCut() {
        PaperTrail x = new PaperTrail();
        int[][] rows = {{0, 1}, {0, -1}, {1, 2}, {-1, -2}, {2, 3, 3}, {-2, -3, -3}, {1, 1, 1}, {MAX, MAX - 1}, {MIN, MIN + 1}};
        int[] means = {0, 0, 1, -1, 2, -2, 1, MAX - 1, MIN + 1};
        for (int n = 0; n < rows.length; n++) {
            Check.fill(x, 2, rows[n]);
            Check.tells(x, "mean of " + java.util.Arrays.toString(rows[n]), x.mean(2), 1, means[n]);
        }
    }

    private static void meanBad() {
        PaperTrail x = Edges.rich();
        for (int r : Edges.outside(6)) {
            Check.bad(x, "mean(" + r + ")", () -> x.mean(r));
        }
    }

    private static void meanNothing() {
        PaperTrail x = Edges.rich();
        Check.found(x, "never made", () -> x.mean(4), Check.NOTHING);
        x.tear(3);
        Check.found(x, "torn", () -> x.mean(3), Check.NOTHING);
    }

    private static void meanNought() {
        PaperTrail x = Edges.rich();
        x.row(4, 0);
        Check.found(x, "of none", () -> x.mean(4), Check.NOUGHT);
        x.row(3, 0);
        Check.found(x, "of one made empty", () -> x.mean(3), Check.NOUGHT);
        x.row(4, 1);
        Check.tells(x, "of one", x.mean(4), 1, 0);
    }

    private static void textIsThere() {
        PaperTrail x = new PaperTrail();
        for (int t = 0; t < 4; t++) {
            for (int n : new int[] {80, 0, 1, 79, 80, 2}) {
                int text = t;
                Check.due("text(" + t + ", " + n + ")", x.text(t, n), n);
                Check.due("blanks alone", x.fault(t), n);
                for (int i = 0; i < n; i++) {
                    Check.due("blank " + i, x.put(t, i, i + 40), 1032);
                }
                Check.found(x, "behind " + n, () -> x.put(text, n, 1), Check.BEYOND);
            }
            Check.due("one TEXT more is there", x.count(8), t + 1);
        }
        Check.due("the others stay", x.put(0, 1, 1), 1041);
    }

    private static void textBad() {
        PaperTrail x = Edges.rich();
        for (int t : Edges.outside(4)) {
            Check.bad(x, "text(" + t + ", 0)", () -> x.text(t, 0));
            Check.bad(x, "BAD ahead of SIZE: text(" + t + ", -1)", () -> x.text(t, -1));
        }
        for (int n : new int[] {81, 82, MAX}) {
            Check.bad(x, "text(2, " + n + ")", () -> x.text(2, n));
            Check.bad(x, "text(3, " + n + ")", () -> x.text(3, n));
        }
        Check.due("it stays as it was", x.put(2, 0, 'n'), 1000 + 'n');
        Check.due("80 are not above", x.text(2, 80), 80);
    }

    private static void textSize() {
        PaperTrail x = Edges.rich();
        for (int n : new int[] {-1, -2, MIN}) {
            Check.found(x, "text(2, " + n + ")", () -> x.text(2, n), Check.SIZE);
            Check.found(x, "text(3, " + n + ")", () -> x.text(3, n), Check.SIZE);
        }
        Check.due("it stays as it was", x.put(2, 9, 'y'), 1000 + 'y');
        Check.due("0 is not below", x.text(2, 0), 0);
    }

    private static void putCuts() {
        PaperTrail x = new PaperTrail();
        x.text(3, 80);
        int was = 32;
        int[] values = {0, 127, 128, 129, 255, 256, 257, -1, -127, -128, -129, -256, 383, 384, MAX, MIN, MIN + 127, 32};
        int[] bytes = {0, 127, -128, -127, -1, 0, 1, -1, -127, -128, 127, 0, 127, -128, -1, 0, 127, 32};
        for (int n = 0; n < values.length; n++) {
            Check.due("ahead of " + values[n], x.put(3, 79, values[n]), 1000 + was);
            was = bytes[n];
        }
        Check.due("the byte ahead stays", x.put(3, 78, 5), 1032);
        Check.due("at last", x.put(3, 79, 0), 1032);
    }

    private static void putTells() {
        PaperTrail x = new PaperTrail();
        x.text(0, 1);
        Check.due("a blank", x.put(0, 0, 127), 1032);
        Check.due("the greatest", x.put(0, 0, 128), 1127);
        Check.due("the least", x.put(0, 0, -1), 872);
        Check.due("-1 is no refusal", x.put(0, 0, 0), 999);
        Check.due("0", x.put(0, 0, 0), 1000);
        Check.due("asked() is not told by it", x.asked(), 0);
    }

    private static void putBad() {
        PaperTrail x = Edges.rich();
        for (int t : Edges.outside(4)) {
            Check.bad(x, "put(" + t + ", 0, 1)", () -> x.put(t, 0, 1));
            Check.bad(x, "put(" + t + ", -1, 1)", () -> x.put(t, -1, 1));
        }
    }

    private static void putNothing() {
        PaperTrail x = Edges.rich();
        Check.found(x, "put(3, 0, 1)", () -> x.put(3, 0, 1), Check.NOTHING);
        Check.found(x, "NOTHING ahead of BEYOND", () -> x.put(3, -1, 1), Check.NOTHING);
        Check.found(x, "NOTHING ahead of BEYOND", () -> x.put(3, 80, 1), Check.NOTHING);
    }

    private static void putBeyond() {
        PaperTrail x = Edges.rich();
        for (int i : Edges.outside(10)) {
            Check.found(x, "put(2, " + i + ", 1)", () -> x.put(2, i, 1), Check.BEYOND);
        }
        Check.due("the last one", x.put(2, 9, 1), 1000 + 'y');
        x.text(3, 0);
        Check.found(x, "an empty one", () -> x.put(3, 0, 1), Check.BEYOND);
        x.text(3, 80);
        Check.found(x, "behind a full one", () -> x.put(3, 80, 1), Check.BEYOND);
    }
}
