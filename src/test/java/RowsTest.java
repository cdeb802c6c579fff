/** Promises 1 to 9: a new object, ROWS, TEXTS. */
public final class RowsTest {
    public static void main(String[] args) {
        newObject();
        row();
        layAndAt();
        tear();
        copy();
        mean();
        text();
        put();
        Check.end();
    }

    private static void newObject() {
        PaperTrail x = new PaperTrail();
        for (int what = 0; what <= 9; what++) {
            Check.due("new: count(" + what + ")", x.count(what), 0);
        }
        Check.due("new: digest()", x.digest(),
            Check.fold(0, 0, 0, 0, 0, 0, 0, 0, 0, 0, 0, -1, -1, -1, -1, -1, -1, -1, -1, -1, -1, -1, -1, -1));
        Check.due("new: asked()", x.asked(), 0);
        Check.due("new: upper()", x.upper(), 0);
        Check.due("new: lower()", x.lower(), 1);
        Check.due("new: finding()", x.finding(), 0);
        for (int f = 1; f <= 5; f++) {
            Check.due("new: findings(" + f + ")", x.findings(f), 0);
        }
        Check.due("new: paper()", x.paper(), 0);
        Check.due("new: wind(0)", x.wind(0), 0);
        Check.due("new: off(0)", x.off(0), 0);
        Check.bad(x, "new: wind(1)", () -> x.wind(1));
        Check.bad(x, "new: hound", () -> x.hound(0, 0));
        Check.bad(x, "new: minutes", () -> x.minutes(0, 1));
        Check.state(x, "new: trails", () -> x.trails());
        Check.state(x, "new: caught", () -> x.caught());
        for (int r = 0; r < 6; r++) {
            int n = r;
            Check.found(x, "new: at", () -> x.at(n, 0), Check.NOTHING);
        }
        for (int t = 0; t < 4; t++) {
            int n = t;
            Check.found(x, "new: fault", () -> x.fault(n), Check.NOTHING);
        }
    }

    private static void row() {
        PaperTrail x = new PaperTrail();
        Check.due("row(0, 3)", x.row(0, 3), 3);
        Check.holds(x, "row(0, 3)", 0, 0, 0, 0);
        Check.due("row(5, 40)", x.row(5, 40), 40);
        Check.tells(x, "at(5, 39)", x.at(5, 39), 1, 0);
        Check.due("row(1, 0)", x.row(1, 0), 0);
        Check.due("count(7)", x.count(7), 3);
        Check.fill(x, 0, 7, 8, 9);
        Check.due("row anew", x.row(0, 2), 2);
        Check.holds(x, "row anew", 0, 0, 0);
        Check.bad(x, "row(-1, 1)", () -> x.row(-1, 1));
        Check.bad(x, "row(6, 1)", () -> x.row(6, 1));
        Check.bad(x, "row(0, 41)", () -> x.row(0, 41));
        Check.bad(x, "row(6, -1)", () -> x.row(6, -1));
        Check.bad(x, "row(0, MAX)", () -> x.row(0, Integer.MAX_VALUE));
        Check.found(x, "row(0, -1)", () -> x.row(0, -1), Check.SIZE);
        Check.found(x, "row(2, MIN)", () -> x.row(2, Integer.MIN_VALUE), Check.SIZE);
    }

    private static void layAndAt() {
        PaperTrail x = new PaperTrail();
        Check.found(x, "lay: missing", () -> x.lay(0, 0, 1), Check.NOTHING);
        Check.found(x, "at: missing", () -> x.at(0, 0), Check.NOTHING);
        x.row(0, 2);
        Check.tells(x, "lay(0, 1, 5)", x.lay(0, 1, 5), 1, 0);
        Check.tells(x, "lay(0, 1, -7)", x.lay(0, 1, -7), 1, 5);
        Check.tells(x, "at(0, 1)", x.at(0, 1), 1, -7);
        Check.tells(x, "lay MIN", x.lay(0, 0, Integer.MIN_VALUE), 1, 0);
        Check.tells(x, "at MIN", x.at(0, 0), 1, Integer.MIN_VALUE);
        for (int i : new int[] {-1, 2, 40, Integer.MAX_VALUE, Integer.MIN_VALUE}) {
            Check.found(x, "lay beyond " + i, () -> x.lay(0, i, 1), Check.BEYOND);
            Check.found(x, "at beyond " + i, () -> x.at(0, i), Check.BEYOND);
        }
        for (int r : new int[] {-1, 6, Integer.MIN_VALUE}) {
            Check.bad(x, "lay bad " + r, () -> x.lay(r, 9, 1));
            Check.bad(x, "at bad " + r, () -> x.at(r, 9));
        }
    }

    private static void tear() {
        PaperTrail x = new PaperTrail();
        x.row(3, 2);
        Check.due("tear(3)", x.tear(3), 1);
        Check.due("count(7)", x.count(7), 0);
        Check.found(x, "tear again", () -> x.tear(3), Check.NOTHING);
        Check.found(x, "at torn", () -> x.at(3, 0), Check.NOTHING);
        Check.bad(x, "tear(-1)", () -> x.tear(-1));
        Check.bad(x, "tear(6)", () -> x.tear(6));
    }

    private static void copy() {
        PaperTrail x = new PaperTrail();
        Check.fill(x, 0, 1, 2, 3, 4, 5);
        x.row(1, 3);
        Check.due("copy to another", x.copy(0, 1, 1, 0, 3), 1);
        Check.holds(x, "copy to another", 1, 2, 3, 4);
        Check.due("copy up itself", x.copy(0, 0, 0, 1, 4), 1);
        Check.holds(x, "copy up itself", 0, 1, 1, 2, 3, 4);
        Check.due("copy down itself", x.copy(0, 2, 0, 0, 3), 1);
        Check.holds(x, "copy down itself", 0, 2, 3, 4, 3, 4);
        Check.due("copy none at the end", x.copy(0, 5, 1, 3, 0), 1);
        Check.holds(x, "copy none", 1, 2, 3, 4);
        Check.bad(x, "copy from 6", () -> x.copy(6, 0, 0, 0, -1));
        Check.bad(x, "copy to -1", () -> x.copy(0, 0, -1, 0, 1));
        Check.found(x, "copy fewer than none", () -> x.copy(4, 0, 5, 0, -1), Check.SIZE);
        Check.found(x, "copy from none", () -> x.copy(4, 9, 0, 0, 1), Check.NOTHING);
        Check.found(x, "copy to none", () -> x.copy(0, 9, 4, 0, 1), Check.NOTHING);
        Check.found(x, "copy from beyond", () -> x.copy(0, 3, 1, 0, 3), Check.BEYOND);
        Check.found(x, "copy to beyond", () -> x.copy(0, 0, 1, 1, 3), Check.BEYOND);
        Check.found(x, "copy from -1", () -> x.copy(0, -1, 1, 0, 1), Check.BEYOND);
        Check.found(x, "copy to -1", () -> x.copy(0, 0, 1, -1, 1), Check.BEYOND);
        Check.found(x, "copy none from behind", () -> x.copy(0, 6, 1, 0, 0), Check.BEYOND);
        Check.found(x, "copy MAX", () -> x.copy(0, 1, 1, 1, Integer.MAX_VALUE), Check.BEYOND);
        Check.found(x, "copy at MAX", () -> x.copy(0, Integer.MAX_VALUE, 1, 0, 1), Check.BEYOND);
    }

    private static void mean() {
        PaperTrail x = new PaperTrail();
        Check.fill(x, 0, 1, 2, 4);
        Check.tells(x, "mean 7 by 3", x.mean(0), 1, 2);
        Check.fill(x, 0, -1, -2, -4);
        Check.tells(x, "mean -7 by 3", x.mean(0), 1, -2);
        Check.fill(x, 0, Integer.MAX_VALUE, Integer.MAX_VALUE, Integer.MAX_VALUE);
        Check.tells(x, "mean MAX", x.mean(0), 1, Integer.MAX_VALUE);
        Check.fill(x, 0, Integer.MIN_VALUE, Integer.MIN_VALUE);
        Check.tells(x, "mean MIN", x.mean(0), 1, Integer.MIN_VALUE);
        x.row(1, 0);
        Check.found(x, "mean of none", () -> x.mean(1), Check.NOUGHT);
        Check.found(x, "mean missing", () -> x.mean(2), Check.NOTHING);
        Check.bad(x, "mean(6)", () -> x.mean(6));
        Check.bad(x, "mean(-1)", () -> x.mean(-1));
    }

    private static void text() {
        PaperTrail x = new PaperTrail();
        Check.due("text(3, 80)", x.text(3, 80), 80);
        Check.due("text(0, 0)", x.text(0, 0), 0);
        Check.due("count(8)", x.count(8), 2);
        Check.due("blank", x.put(3, 79, 1), 1032);
        Check.due("text anew", x.text(3, 80), 80);
        Check.due("blank anew", x.put(3, 79, 1), 1032);
        Check.bad(x, "text(4, 1)", () -> x.text(4, 1));
        Check.bad(x, "text(-1, -1)", () -> x.text(-1, -1));
        Check.bad(x, "text(0, 81)", () -> x.text(0, 81));
        Check.found(x, "text(0, -1)", () -> x.text(0, -1), Check.SIZE);
    }

    private static void put() {
        PaperTrail x = new PaperTrail();
        Check.found(x, "put missing", () -> x.put(1, 0, 1), Check.NOTHING);
        x.text(1, 2);
        Check.due("put(1, 0, 255)", x.put(1, 0, 255), 1032);
        Check.due("was -1", x.put(1, 0, 128), 999);
        Check.due("was -128", x.put(1, 0, 256 + 99), 872);
        Check.due("was 99", x.put(1, 0, -1000), 1099);
        Check.due("was 24", x.put(1, 0, 0), 1024);
        Check.due("asked() is not told", x.asked(), 0);
        Check.found(x, "put beyond", () -> x.put(1, 2, 1), Check.BEYOND);
        Check.found(x, "put below", () -> x.put(1, -1, 1), Check.BEYOND);
        Check.bad(x, "put(4)", () -> x.put(4, 0, 1));
        Check.bad(x, "put(-1)", () -> x.put(-1, 0, 1));
    }
}
