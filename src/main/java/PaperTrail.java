public final class PaperTrail {
    public static final int BAD = -1, FULL = -2, FINDING = -3, STATE = -4, SPENT = -6, NONE = -9;

    private static final int NOTHING = 1, BEYOND = 2, UNLIKE = 3, NOUGHT = 4, SIZE = 5;
    private static final int ROWS = 6, LONGEST_ROW = 40, TEXTS = 4, LONGEST_TEXT = 80, KEPT = 3;
    private static final int BLANK = 32;
    private static final int MOST_PLACES = 7, MOST_HOUNDS = 4, MOST_PATHS = 12;
    private static final int MOST_ENDS = 8, LONGEST_END = 5, GREATEST_HEAD = 9;
    private static final int GREATEST_SACK = 99, GREATEST_MINUTE = 999, GREATEST_PARTY = 9;
    private static final int WIND_MINUTES = 2;
    /** A minute behind all others. */
    private static final int NEVER = 1000000;

    private final Shelf rows;
    private final Shelf texts;
    private final Land land;
    private final Land draft;
    private final Reader reader;
    private final Course course;
    private final Course[] kept;
    private final boolean[] isKept;
    private final Chase chase;
    private final Planner planner;
    private final Ways ways;
    private final Odds odds;
    private final int[] found;
    private int lastFound;
    private int told;
    private long toldUpper;
    private long toldLower;

    public PaperTrail() {
        rows = new Shelf(ROWS, LONGEST_ROW);
        texts = new Shelf(TEXTS, LONGEST_TEXT);
        land = new Land();
        draft = new Land();
        reader = new Reader(draft);
        course = new Course();
        kept = new Course[KEPT];
        for (int k = 0; k < KEPT; k++) {
            kept[k] = new Course();
        }
        isKept = new boolean[KEPT];
        chase = new Chase();
        Course trial = new Course();
        planner = new Planner(land, course, trial, chase);
        ways = new Ways(land, trial, chase);
        odds = new Odds(land, course);
        found = new int[SIZE + 1];
        toldLower = 1;
    }

    // ---- 1 rows, texts, countries

    public int row(int r, int n) {
        if (!rows.has(r) || n > LONGEST_ROW) {
            return BAD;
        }
        if (n < 0) {
            return refuse(SIZE);
        }
        rows.open(r, n, 0);
        return n;
    }

    public int lay(int r, int i, int v) {
        int no = refusalOf(rows, r, i);
        return no != 0 ? no : tell(rows.exchange(r, i, v));
    }

    public int at(int r, int i) {
        int no = refusalOf(rows, r, i);
        return no != 0 ? no : tell(rows.cells[r][i]);
    }

    public int tear(int r) {
        int no = refusalOf(rows, r);
        if (no != 0) {
            return no;
        }
        rows.remove(r);
        return 1;
    }

    public int copy(int r, int i, int to, int j, int n) {
        if (!rows.has(r) || !rows.has(to)) {
            return BAD;
        }
        if (n < 0) {
            return refuse(SIZE);
        }
        if (!rows.isThere(r) || !rows.isThere(to)) {
            return refuse(NOTHING);
        }
        if (!rows.spans(r, i, n) || !rows.spans(to, j, n)) {
            return refuse(BEYOND);
        }
        System.arraycopy(rows.cells[r], i, rows.cells[to], j, n);
        return 1;
    }

    public int mean(int r) {
        int no = refusalOf(rows, r);
        if (no != 0) {
            return no;
        }
        int n = rows.sizes[r];
        if (n == 0) {
            return refuse(NOUGHT);
        }
        return tell((int) (rows.sum(r) / n));
    }

    public int text(int t, int n) {
        if (!texts.has(t) || n > LONGEST_TEXT) {
            return BAD;
        }
        if (n < 0) {
            return refuse(SIZE);
        }
        texts.open(t, n, BLANK);
        return n;
    }

    public int put(int t, int i, int v) {
        int no = refusalOf(texts, t, i);
        return no != 0 ? no : 1000 + texts.exchange(t, i, (byte) v);
    }

    public int fault(int t) {
        int no = refusalOf(texts, t);
        return no != 0 ? no : reader.faultOf(texts.cells[t], texts.sizes[t]);
    }

    public int country(int t) {
        int no = refusalOf(texts, t);
        if (no != 0) {
            return no;
        }
        if (reader.faultOf(texts.cells[t], texts.sizes[t]) != NONE) {
            return STATE;
        }
        land.take(draft);
        course.startAnew(reader.head);
        for (int k = 0; k < KEPT; k++) {
            isKept[k] = false;
        }
        return land.places;
    }

    public int hound(int i, int what) {
        if (!land.hasHound(i) || what < 0 || what > 2) {
            return BAD;
        }
        if (what != 0) {
            pursue();
        }
        return tell(ofHound(i, what));
    }

    public int mark(int i, int kind) {
        if (!land.hasHound(i) || kind <= Kinds.HOUND || kind >= Kinds.MANY) {
            return BAD;
        }
        if (!Kinds.isA(land.kinds[i], kind)) {
            return refuse(UNLIKE);
        }
        if (!course.isLaid()) {
            return 0;
        }
        pursue();
        switch (kind) {
            case Kinds.QUICK:
                return course.minutesFor(land, Kinds.HOUND) - course.minutesFor(land, Kinds.QUICK);
            case Kinds.SLOW:
                return chase.heard[i];
            case Kinds.CASTER:
                return Integer.bitCount(chase.tried[i]);
            case Kinds.LEADER:
                // a LEADER loses no minutes but those it waits
                return chase.lost[i];
            default:
                return course.last();
        }
    }

    public int minutes(int x, int y) {
        if (!land.hasPlace(x) || !land.hasPlace(y) || x == y) {
            return BAD;
        }
        return land.hasPath(x, y) ? land.paths[x][y] : NONE;
    }

    public int head(int v) {
        if (v < 0 || v > GREATEST_HEAD) {
            return BAD;
        }
        if (land.isBare()) {
            return STATE;
        }
        int old = course.head;
        course.head = v;
        return old;
    }

    // ---- 2 the trail

    public int trail(int r) {
        if (!rows.has(r)) {
            return BAD;
        }
        if (land.isBare()) {
            return STATE;
        }
        if (!rows.isThere(r)) {
            return refuse(NOTHING);
        }
        if (!land.isTrail(rows.cells[r], rows.sizes[r])) {
            return refuse(UNLIKE);
        }
        course.follow(rows.cells[r], rows.sizes[r]);
        return course.last();
    }

    public int lure(int x, int to, int minutes) {
        if (!land.hasPlace(x) || !land.hasPlace(to) || minutes < 1 || minutes > LONGEST_END) {
            return BAD;
        }
        if (!course.isLaid()) {
            return STATE;
        }
        if (!course.admits(land, x, to)) {
            return refuse(UNLIKE);
        }
        if (course.isFull()) {
            return FULL;
        }
        course.addEnd(x, to, minutes);
        return course.ends;
    }

    public int off(int n) {
        if (n < 0 || n > course.ends) {
            return BAD;
        }
        int fewer = course.ends - n;
        course.ends = n;
        return fewer;
    }

    public int wind(int set) {
        if (set < 0 || set >> land.places != 0) {
            return BAD;
        }
        int old = course.wind;
        course.wind = set;
        return old;
    }

    public int paper() {
        return course.paperFor(land);
    }

    public int empty(int v) {
        if (v < 0 || v > GREATEST_SACK) {
            return BAD;
        }
        return course.isLaid() ? course.emptyAt(land, v) : STATE;
    }

    public int keep(int k) {
        if (k < 0 || k >= KEPT) {
            return BAD;
        }
        if (land.isBare()) {
            return STATE;
        }
        kept[k].take(course);
        isKept[k] = true;
        return course.ends;
    }

    public int on(int k) {
        if (k < 0 || k >= KEPT) {
            return BAD;
        }
        if (!isKept[k]) {
            return refuse(NOTHING);
        }
        course.take(kept[k]);
        return course.ends;
    }

    // ---- 3 the run

    public int hares(int k) {
        int no = refusalAt(k);
        return no != 0 ? no : course.haresAt(land, k);
    }

    public int comes(int i, int k) {
        if (!land.hasHound(i)) {
            return BAD;
        }
        int no = refusalAt(k);
        if (no != 0) {
            return no;
        }
        pursue();
        told = chase.leaves[i][k];
        return chase.comes[i][k];
    }

    public int pack(int k, int r) {
        if (!rows.has(r)) {
            return BAD;
        }
        int no = refusalAt(k);
        if (no != 0) {
            return no;
        }
        pursue();
        chase.sortAt(k);
        rows.fill(r, chase.order, land.hounds);
        return land.hounds;
    }

    public int caught() {
        if (!course.isLaid()) {
            return STATE;
        }
        pursue();
        int k = chase.caughtAt();
        if (k == NONE) {
            return NONE;
        }
        told = chase.firstAt(k);
        return k;
    }

    public int ahead() {
        if (!course.isLaid() || land.hounds == 0) {
            return STATE;
        }
        pursue();
        return tell(chase.lead());
    }

    public int call(int k) {
        int no = refusalAt(k);
        if (no != 0) {
            return no;
        }
        pursue();
        return chase.isCheck[k] ? chase.firstCallers(k) : 0;
    }

    // ---- 4 what to lay

    public int best() {
        if (!course.isLaid()) {
            return STATE;
        }
        if (course.isFull()) {
            return FULL;
        }
        int code = planner.bestEnd();
        if (code == NONE) {
            return NONE;
        }
        told = planner.latest;
        return code;
    }

    public int fewest(int r) {
        if (!rows.has(r)) {
            return BAD;
        }
        if (!course.isLaid()) {
            return STATE;
        }
        int many = planner.fewestEnds();
        if (many != NONE) {
            rows.fill(r, planner.chosen, many);
        }
        return many;
    }

    public int trails() {
        if (land.isBare()) {
            return STATE;
        }
        return ways.countAll();
    }

    public int least(int r) {
        if (!rows.has(r)) {
            return BAD;
        }
        if (land.isBare()) {
            return STATE;
        }
        if (!ways.findLeast()) {
            return NONE;
        }
        rows.fill(r, ways.best, ways.bestSize);
        return -ways.worth;
    }

    public int route(int r) {
        if (!rows.has(r)) {
            return BAD;
        }
        if (land.isBare()) {
            return STATE;
        }
        if (land.hounds == 0 || !ways.findFurthest(course)) {
            return NONE;
        }
        rows.fill(r, ways.best, ways.bestSize);
        told = ways.worth;
        return ways.bestSize - 1;
    }

    // ---- 5 across, parted

    public int across(int i, int k, int j) {
        if (!land.hasHound(i) || k < 0 || k >= j) {
            return BAD;
        }
        int no = refusalAt(j);
        if (no != 0) {
            return no;
        }
        int minutes = land.paths[course.trail[k]][course.trail[j]];
        if (minutes == 0) {
            return NONE;
        }
        pursue();
        int there = chase.comes[i][k] + Kinds.pace(land.kinds[i], minutes);
        return tell(chase.comes[i][j] - there);
    }

    public int parted(int k, int n) {
        if (n < 1 || n > GREATEST_PARTY) {
            return BAD;
        }
        int no = refusalAt(k);
        return no != 0 ? no : planner.minutesParted(k, n);
    }

    // ---- 6 at random

    public int chance(int i, int minute) {
        if (!land.hasHound(i) || minute < 0 || minute > GREATEST_MINUTE) {
            return BAD;
        }
        if (!course.isLaid()) {
            return STATE;
        }
        odds.weigh(minute - odds.leastMinute(land.kinds[i]));
        return tellFraction(odds.part, odds.whole);
    }

    public int mid(int i) {
        if (!land.hasHound(i)) {
            return BAD;
        }
        if (!course.isLaid()) {
            return STATE;
        }
        return tellFraction(odds.meanMinute(land.kinds[i]), 1);
    }

    public int run(int seed) {
        if (seed < 1 || seed >= Odds.MODULUS) {
            return BAD;
        }
        if (!course.isLaid()) {
            return STATE;
        }
        if (land.hounds == 0) {
            return NONE;
        }
        odds.drawAll(seed);
        told = odds.soonest;
        return odds.winner;
    }

    // ---- 7 what fits

    public int kinds(int r) {
        if (!rows.has(r)) {
            return BAD;
        }
        if (!course.isLaid()) {
            return STATE;
        }
        if (!rows.isThere(r)) {
            return refuse(NOTHING);
        }
        if (rows.sizes[r] != course.size) {
            return refuse(SIZE);
        }
        if (!areSeen(rows.cells[r], course.size)) {
            return refuse(UNLIKE);
        }
        int set = 0;
        for (int kind = 0; kind < Kinds.MANY; kind++) {
            chase.gatherOne(kind);
            chase.pursueAll(land, course);
            if (chase.agrees(rows.cells[r])) {
                set |= 1 << kind;
            }
        }
        return set;
    }

    public int gone(int i) {
        if (!land.hasHound(i)) {
            return BAD;
        }
        if (!course.isLaid()) {
            return STATE;
        }
        pursue();
        return chase.tried[i];
    }

    // ---- 8 what is told

    public int asked() {
        return told;
    }

    public long upper() {
        return toldUpper;
    }

    public long lower() {
        return toldLower;
    }

    public int count(int what) {
        switch (what) {
            case 0:
                return land.places;
            case 1:
                return land.hounds;
            case 2:
                return land.pathCount;
            case 3:
                return course.head;
            case 4:
                return course.size;
            case 5:
                return course.ends;
            case 6:
                return land.quickOnes();
            case 7:
                return rows.manyThere();
            case 8:
                return texts.manyThere();
            case 9:
                return manyKept();
            default:
                return BAD;
        }
    }

    public int finding() {
        return lastFound;
    }

    public int findings(int f) {
        return f < NOTHING || f > SIZE ? BAD : found[f];
    }

    public long digest() {
        long h = 17;
        for (int what = 0; what <= 9; what++) {
            h = 31 * h + count(what);
        }
        h = course.foldInto(h);
        pursue();
        for (int i = 0; i < land.hounds; i++) {
            for (int what = 0; what <= 2; what++) {
                h = 31 * h + ofHound(i, what);
            }
        }
        for (int k = 0; k < KEPT; k++) {
            h = 31 * h + (isKept[k] ? kept[k].ends : -1);
        }
        return texts.foldInto(rows.foldInto(h));
    }

    private int refuse(int finding) {
        lastFound = finding;
        if (finding >= NOTHING && finding <= SIZE) {
            found[finding]++;
        }
        return FINDING;
    }

    private int tell(int v) {
        told = v;
        return 1;
    }

    private int tellFraction(long part, long whole) {
        long common = Odds.commonOf(part, whole);
        if (common > 0) {
            toldUpper = part / common;
            toldLower = whole / common;
        }
        return 1;
    }

    /** 0, where there is nothing to refuse. */
    private int refusalOf(Shelf shelf, int r) {
        if (!shelf.has(r)) {
            return BAD;
        }
        return shelf.isThere(r) ? 0 : refuse(NOTHING);
    }

    private int refusalOf(Shelf shelf, int r, int i) {
        int no = refusalOf(shelf, r);
        if (no != 0) {
            return no;
        }
        return shelf.holds(r, i) ? 0 : refuse(BEYOND);
    }

    /** Of a place of THE TRAIL: 0, where there is nothing to refuse. */
    private int refusalAt(int k) {
        if (k < 0) {
            return BAD;
        }
        if (!course.isLaid()) {
            return STATE;
        }
        return k < course.size ? 0 : refuse(BEYOND);
    }

    private void pursue() {
        chase.gather(land);
        chase.pursueAll(land, course);
    }

    /** What hound() tells, behind pursue(). */
    private int ofHound(int i, int what) {
        if (what == 0) {
            return land.kinds[i];
        }
        if (!course.isLaid()) {
            return what == 1 ? NONE : 0;
        }
        return what == 1 ? chase.comes[i][course.last()] : chase.lost[i];
    }

    private int manyKept() {
        int many = 0;
        for (int k = 0; k < KEPT; k++) {
            many += isKept[k] ? 1 : 0;
        }
        return many;
    }

    private static boolean areSeen(int[] seen, int size) {
        for (int k = 0; k < size; k++) {
            if (seen[k] < 0 && seen[k] != NONE) {
                return false;
            }
        }
        return true;
    }

    /** ROWS or TEXTS: made once, so that calls make no arrays of their own. */
    private static final class Shelf {
        private static final int MISSING = -1;

        final int[][] cells;
        final int[] sizes;

        Shelf(int many, int longest) {
            cells = new int[many][longest];
            sizes = new int[many];
            for (int r = 0; r < many; r++) {
                sizes[r] = MISSING;
            }
        }

        boolean has(int r) {
            return r >= 0 && r < sizes.length;
        }

        boolean isThere(int r) {
            return sizes[r] != MISSING;
        }

        boolean holds(int r, int i) {
            return i >= 0 && i < sizes[r];
        }

        /** The size less n can't wrap around, as i and n together might. */
        boolean spans(int r, int i, int n) {
            return i >= 0 && i <= sizes[r] - n;
        }

        void open(int r, int n, int v) {
            sizes[r] = n;
            for (int i = 0; i < n; i++) {
                cells[r][i] = v;
            }
        }

        void fill(int r, int[] from, int n) {
            sizes[r] = n;
            System.arraycopy(from, 0, cells[r], 0, n);
        }

        void remove(int r) {
            sizes[r] = MISSING;
        }

        int exchange(int r, int i, int v) {
            int old = cells[r][i];
            cells[r][i] = v;
            return old;
        }

        long sum(int r) {
            long all = 0;
            for (int i = 0; i < sizes[r]; i++) {
                all += cells[r][i];
            }
            return all;
        }

        int manyThere() {
            int many = 0;
            for (int r = 0; r < sizes.length; r++) {
                many += isThere(r) ? 1 : 0;
            }
            return many;
        }

        long foldInto(long start) {
            long h = start;
            for (int r = 0; r < sizes.length; r++) {
                h = 31 * h + sizes[r];
                for (int i = 0; i < sizes[r]; i++) {
                    h = 31 * h + cells[r][i];
                }
            }
            return h;
        }
    }

    /** The KINDS of HOUNDS. */
    private static final class Kinds {
        static final int HOUND = 0, QUICK = 1, SLOW = 2, CASTER = 3, LEADER = 4, TIRED = 5;
        static final int MANY = 6;

        static int ofLetter(int sign) {
            switch (sign) {
                case 'h':
                    return HOUND;
                case 'q':
                    return QUICK;
                case 's':
                    return SLOW;
                case 'a':
                    return CASTER;
                case 'l':
                    return LEADER;
                case 't':
                    return TIRED;
                default:
                    return NONE;
            }
        }

        static boolean isA(int kind, int wanted) {
            return kind == wanted || wanted == HOUND
                || kind == LEADER && wanted == QUICK
                || kind == TIRED && wanted == SLOW;
        }

        static int pace(int kind, int minutes) {
            if (isA(kind, QUICK)) {
                return (minutes + 1) / 2;
            }
            if (kind == TIRED) {
                return 2 * minutes + 1;
            }
            return kind == SLOW ? 2 * minutes : minutes;
        }
    }

    /** What a COUNTRY's TEXT tells but for the HEAD, which changes later. */
    private static final class Land {
        int places;
        int hounds;
        int pathCount;
        final int[] kinds;
        /** MINUTES between two PLACES; 0: no PATH. */
        final int[][] paths;

        Land() {
            kinds = new int[MOST_HOUNDS];
            paths = new int[MOST_PLACES][MOST_PLACES];
        }

        void clear() {
            places = 0;
            hounds = 0;
            pathCount = 0;
            for (int x = 0; x < MOST_PLACES; x++) {
                for (int y = 0; y < MOST_PLACES; y++) {
                    paths[x][y] = 0;
                }
            }
        }

        void take(Land other) {
            places = other.places;
            hounds = other.hounds;
            pathCount = other.pathCount;
            System.arraycopy(other.kinds, 0, kinds, 0, MOST_HOUNDS);
            for (int x = 0; x < MOST_PLACES; x++) {
                System.arraycopy(other.paths[x], 0, paths[x], 0, MOST_PLACES);
            }
        }

        boolean isBare() {
            return places == 0;
        }

        boolean hasPlace(int x) {
            return x >= 0 && x < places;
        }

        boolean hasHound(int i) {
            return i >= 0 && i < hounds;
        }

        boolean hasPath(int x, int y) {
            return paths[x][y] > 0;
        }

        int inn() {
            return places - 1;
        }

        void addHound(int kind) {
            kinds[hounds] = kind;
            hounds++;
        }

        void addPath(int x, int y, int minutes) {
            paths[x][y] = minutes;
            paths[y][x] = minutes;
            pathCount++;
        }

        int quickOnes() {
            int many = 0;
            for (int i = 0; i < hounds; i++) {
                many += Kinds.isA(kinds[i], Kinds.QUICK) ? 1 : 0;
            }
            return many;
        }

        boolean isTrail(int[] row, int size) {
            if (size < 2 || size > places || row[0] != 0 || row[size - 1] != inn()) {
                return false;
            }
            int been = 1;
            for (int k = 1; k < size; k++) {
                int next = row[k];
                if (!hasPlace(next) || (been >> next & 1) != 0 || !hasPath(row[k - 1], next)) {
                    return false;
                }
                been |= 1 << next;
            }
            return true;
        }
    }

    /** Reads a COUNTRY's TEXT into a draft; its place stops at the FAULT. */
    private static final class Reader {
        final Land draft;
        int head;
        int[] text;
        int size;
        int place;

        Reader(Land draft) {
            this.draft = draft;
            text = new int[0];
        }

        int faultOf(int[] cells, int many) {
            text = cells;
            size = many;
            place = 0;
            draft.clear();
            skipBlanks();
            if (!readOpening()) {
                return place;
            }
            skipBlanks();
            for (int item = 0; item < LONGEST_TEXT && place < size; item++) {
                if (!readItem()) {
                    return place;
                }
                skipBlanks();
            }
            return NONE;
        }

        private void skipBlanks() {
            while (place < size && text[place] == BLANK) {
                place++;
            }
        }

        /** Behind the end: a sign that fits nowhere, so that the FAULT is the size. */
        private int sign() {
            return place < size ? text[place] : 0;
        }

        /** The figure here, gone past; NONE, and not gone past, if it is no such one. */
        private int readFigure(int least, int most) {
            int figure = sign() - '0';
            if (figure < least || figure > most) {
                return NONE;
            }
            place++;
            return figure;
        }

        private boolean readOpening() {
            if (sign() != 'c') {
                return false;
            }
            place++;
            int places = readFigure(2, MOST_PLACES);
            if (places == NONE) {
                return false;
            }
            draft.places = places;
            head = readFigure(0, GREATEST_HEAD);
            return head != NONE;
        }

        private boolean readItem() {
            return sign() == '-' ? readPath() : readHound();
        }

        private boolean readHound() {
            int kind = Kinds.ofLetter(sign());
            if (kind == NONE || draft.pathCount > 0 || draft.hounds >= MOST_HOUNDS) {
                return false;
            }
            draft.addHound(kind);
            place++;
            return true;
        }

        private boolean readPath() {
            if (draft.pathCount >= MOST_PATHS) {
                return false;
            }
            place++;
            int x = readFigure(0, draft.inn());
            if (x == NONE) {
                return false;
            }
            int y = readFigure(0, draft.inn());
            if (y == NONE) {
                return false;
            }
            if (y == x || draft.hasPath(x, y)) {
                // the FAULT is the second PLACE, which is a figure like any other
                place--;
                return false;
            }
            int minutes = readFigure(1, 9);
            if (minutes == NONE) {
                return false;
            }
            draft.addPath(x, y, minutes);
            return true;
        }
    }

    /** What is kept of a COUNTRY: the HEAD, THE TRAIL, FALSE ends, WIND. */
    private static final class Course {
        int head;
        int size;
        int ends;
        int wind;
        final int[] trail;
        final int[] from;
        final int[] towards;
        final int[] length;

        Course() {
            trail = new int[MOST_PLACES];
            from = new int[MOST_ENDS];
            towards = new int[MOST_ENDS];
            length = new int[MOST_ENDS];
        }

        void startAnew(int minutesAhead) {
            head = minutesAhead;
            size = 0;
            ends = 0;
            wind = 0;
        }

        void take(Course other) {
            head = other.head;
            wind = other.wind;
            size = other.size;
            ends = other.ends;
            System.arraycopy(other.trail, 0, trail, 0, MOST_PLACES);
            System.arraycopy(other.from, 0, from, 0, MOST_ENDS);
            System.arraycopy(other.towards, 0, towards, 0, MOST_ENDS);
            System.arraycopy(other.length, 0, length, 0, MOST_ENDS);
        }

        void follow(int[] row, int many) {
            System.arraycopy(row, 0, trail, 0, many);
            size = many;
            ends = 0;
        }

        void addEnd(int x, int to, int minutes) {
            setEnd(ends, x, to, minutes);
            ends++;
        }

        void setEnd(int n, int x, int to, int minutes) {
            from[n] = x;
            towards[n] = to;
            length[n] = minutes;
        }

        boolean isLaid() {
            return size > 0;
        }

        boolean isFull() {
            return ends >= MOST_ENDS;
        }

        /** Which place of THE TRAIL is the INN. */
        int last() {
            return size - 1;
        }

        int indexOf(int x) {
            for (int k = 0; k < size; k++) {
                if (trail[k] == x) {
                    return k;
                }
            }
            return NONE;
        }

        int endBetween(int x, int to) {
            for (int n = 0; n < ends; n++) {
                if (from[n] == x && towards[n] == to) {
                    return n;
                }
            }
            return NONE;
        }

        boolean admits(Land land, int x, int to) {
            int k = indexOf(x);
            return k != NONE && k < last() && land.hasPath(x, to)
                && trail[k + 1] != to && endBetween(x, to) == NONE;
        }

        boolean isWindy(int k) {
            return k < size - 1 && (wind >> trail[k] & 1) != 0;
        }

        /** FALSE ends (bits) at a place of THE TRAIL. */
        int endsAt(int k) {
            int set = 0;
            for (int n = 0; n < ends; n++) {
                set |= from[n] == trail[k] ? 1 << n : 0;
            }
            return set;
        }

        int lengthAt(int k) {
            int all = 0;
            for (int n = 0; n < ends; n++) {
                all += from[n] == trail[k] ? length[n] : 0;
            }
            return all;
        }

        int lengthOf(int set) {
            int all = 0;
            for (int n = 0; n < ends; n++) {
                all += (set >> n & 1) != 0 ? length[n] : 0;
            }
            return all;
        }

        int windMinutes() {
            int all = 0;
            for (int k = 0; k < last(); k++) {
                all += isWindy(k) ? WIND_MINUTES : 0;
            }
            return all;
        }

        int nextPath(Land land, int k) {
            return land.paths[trail[k]][trail[k + 1]];
        }

        int haresAt(Land land, int place) {
            int all = 0;
            for (int k = 0; k < place; k++) {
                all += nextPath(land, k);
            }
            return all;
        }

        /** How long a HOUND of a KIND goes by THE TRAIL's PATHS alone. */
        int minutesFor(Land land, int kind) {
            int all = 0;
            for (int k = 0; k < last(); k++) {
                all += Kinds.pace(kind, nextPath(land, k));
            }
            return all;
        }

        int paperFor(Land land) {
            int all = haresAt(land, last());
            for (int n = 0; n < ends; n++) {
                all += length[n];
            }
            return all;
        }

        int emptyAt(Land land, int sack) {
            int left = sack;
            for (int k = 0; k < last(); k++) {
                left -= lengthAt(k) + nextPath(land, k);
                if (left < 0) {
                    return trail[k];
                }
            }
            return NONE;
        }

        long foldInto(long start) {
            long h = 31 * start + wind;
            for (int k = 0; k < size; k++) {
                h = 31 * h + trail[k];
            }
            for (int n = 0; n < ends; n++) {
                h = 31 * (31 * (31 * h + from[n]) + towards[n]) + length[n];
            }
            return h;
        }
    }

    /** HOUNDS behind the hares, place by place. */
    private static final class Chase {
        int many;
        int size;
        final int[] kinds;
        final boolean[] isSlow;
        final int[] paths;
        final boolean[] isCheck;
        /** FALSE ends (bits) that HOUNDS go at each place, what they lose there, and CASTERS likewise. */
        final int[] ends;
        final int[] loss;
        final int[] casterEnds;
        final int[] casterLoss;
        final int[] hares;
        final int[][] comes;
        final int[][] leaves;
        final int[] lost;
        final int[] heard;
        /** FALSE ends (bits) that each HOUND goes. */
        final int[] tried;
        final int[] order;

        Chase() {
            kinds = new int[MOST_HOUNDS];
            isSlow = new boolean[MOST_HOUNDS];
            paths = new int[MOST_PLACES];
            isCheck = new boolean[MOST_PLACES];
            ends = new int[MOST_PLACES];
            loss = new int[MOST_PLACES];
            casterEnds = new int[MOST_PLACES];
            casterLoss = new int[MOST_PLACES];
            hares = new int[MOST_PLACES];
            comes = new int[MOST_HOUNDS][MOST_PLACES];
            leaves = new int[MOST_HOUNDS][MOST_PLACES];
            lost = new int[MOST_HOUNDS];
            heard = new int[MOST_HOUNDS];
            tried = new int[MOST_HOUNDS];
            order = new int[MOST_HOUNDS];
        }

        void gather(Land land) {
            many = land.hounds;
            for (int i = 0; i < many; i++) {
                enter(i, land.kinds[i]);
            }
        }

        void gatherOne(int kind) {
            many = 1;
            enter(0, kind);
        }

        private void enter(int i, int kind) {
            kinds[i] = kind;
            isSlow[i] = Kinds.isA(kind, Kinds.SLOW);
        }

        void pursueAll(Land land, Course course) {
            begin(land, course);
            for (int k = 0; k < size - 1; k++) {
                goOn(k);
            }
        }

        /** Goes no further than where the hares are CAUGHT: fewest() asks often. */
        int pursueTillCaught(Land land, Course course) {
            begin(land, course);
            for (int k = 0; k < size - 1; k++) {
                goOn(k);
                if (isCaughtAt(k + 1)) {
                    return k + 1;
                }
            }
            return NONE;
        }

        private void begin(Land land, Course course) {
            size = course.size;
            for (int k = 0; k < size; k++) {
                survey(land, course, k);
            }
            for (int n = 0; n < course.ends; n++) {
                surveyEnd(course, n);
            }
            hares[0] = 0;
            for (int i = 0; i < many; i++) {
                comes[i][0] = course.head;
                if (size > 0) {
                    leaves[i][size - 1] = NONE;
                }
                lost[i] = 0;
                heard[i] = 0;
                tried[i] = 0;
            }
        }

        private void survey(Land land, Course course, int k) {
            paths[k] = k < size - 1 ? course.nextPath(land, k) : 0;
            isCheck[k] = course.isWindy(k);
            ends[k] = 0;
            loss[k] = isCheck[k] ? WIND_MINUTES : 0;
            casterEnds[k] = 0;
            casterLoss[k] = loss[k];
        }

        private void surveyEnd(Course course, int n) {
            int k = course.indexOf(course.from[n]);
            if (k < 0 || k >= size - 1) {
                return;
            }
            boolean isWindy = course.isWindy(k);
            boolean isLesser = course.towards[n] < course.trail[k + 1];
            isCheck[k] = true;
            if (isWindy || isLesser) {
                ends[k] |= 1 << n;
                loss[k] += 2 * course.length[n];
            }
            if (isWindy || !isLesser) {
                casterEnds[k] |= 1 << n;
                casterLoss[k] += 2 * course.length[n];
            }
        }

        private void goOn(int k) {
            hares[k + 1] = hares[k] + paths[k];
            if (isCheck[k]) {
                leaveCheck(k);
            }
            for (int i = 0; i < many; i++) {
                if (!isCheck[k]) {
                    leaves[i][k] = comes[i][k];
                }
                comes[i][k + 1] = leaves[i][k] + Kinds.pace(kinds[i], paths[k]);
            }
        }

        private void leaveCheck(int k) {
            // by who comes ahead, since a CALL helps only those who come behind it
            sortAt(k);
            int call = NEVER;
            for (int n = 0; n < many; n++) {
                int i = order[n];
                int minutes = 0;
                if (isSlow[i] && call <= comes[i][k]) {
                    heard[i]++;
                } else {
                    minutes = tryEnds(i, k);
                }
                lost[i] += minutes;
                leaves[i][k] = comes[i][k] + minutes;
                call = Math.min(call, leaves[i][k]);
            }
        }

        /** The minutes that a HOUND loses at a CHECK, if it hears no CALL. */
        private int tryEnds(int i, int k) {
            if (kinds[i] == Kinds.LEADER) {
                return 1;
            }
            if (kinds[i] == Kinds.CASTER) {
                tried[i] |= casterEnds[k];
                return casterLoss[k];
            }
            tried[i] |= ends[k];
            return loss[k];
        }

        /** Brings HOUNDS into the order in which they come to a place. */
        void sortAt(int k) {
            for (int i = 0; i < many; i++) {
                int n = i;
                while (n > 0 && comes[order[n - 1]][k] > comes[i][k]) {
                    order[n] = order[n - 1];
                    n--;
                }
                order[n] = i;
            }
        }

        boolean isCaughtAt(int k) {
            for (int i = 0; i < many; i++) {
                if (comes[i][k] <= hares[k]) {
                    return true;
                }
            }
            return false;
        }

        int caughtAt() {
            for (int k = 1; k < size; k++) {
                if (isCaughtAt(k)) {
                    return k;
                }
            }
            return NONE;
        }

        /** The HOUND that comes first to a place, the least of alike ones. */
        int firstAt(int k) {
            int first = 0;
            for (int i = 1; i < many; i++) {
                if (comes[i][k] < comes[first][k]) {
                    first = i;
                }
            }
            return first;
        }

        int firstMinute() {
            return comes[firstAt(size - 1)][size - 1];
        }

        int lead() {
            return firstMinute() - hares[size - 1];
        }

        int firstCallers(int k) {
            int set = 0;
            int call = 0;
            for (int i = 0; i < many; i++) {
                if (set == 0 || leaves[i][k] < call) {
                    set = 0;
                    call = leaves[i][k];
                }
                set |= leaves[i][k] == call ? 1 << i : 0;
            }
            return set;
        }

        boolean agrees(int[] seen) {
            for (int k = 0; k < size; k++) {
                if (seen[k] != NONE && seen[k] != comes[0][k]) {
                    return false;
                }
            }
            return true;
        }
    }

    /** What the hares might lay more, and how HOUNDS should part. */
    private static final class Planner {
        private static final int MOST_MORE = 3;

        final Land land;
        final Course course;
        final Course trial;
        final Chase chase;
        /** FALSE ends that could be laid (10 times the PLACE, and towards which), rising. */
        final int[] open;
        int openCount;
        final int[] chosen;
        final int[] free;
        int latest;

        Planner(Land land, Course course, Course trial, Chase chase) {
            this.land = land;
            this.course = course;
            this.trial = trial;
            this.chase = chase;
            open = new int[2 * MOST_PATHS];
            chosen = new int[MOST_MORE];
            free = new int[GREATEST_PARTY];
        }

        private void prepare() {
            trial.take(course);
            chase.gather(land);
            openCount = 0;
            for (int x = 0; x < land.places; x++) {
                for (int to = 0; to < land.places; to++) {
                    if (openCount < open.length && course.admits(land, x, to)) {
                        open[openCount] = 10 * x + to;
                        openCount++;
                    }
                }
            }
        }

        int bestEnd() {
            prepare();
            int best = NONE;
            if (land.hounds == 0 || course.isFull()) {
                return best;
            }
            trial.ends = course.ends + 1;
            for (int n = 0; n < openCount; n++) {
                for (int minutes = 1; minutes <= LONGEST_END; minutes++) {
                    trial.setEnd(course.ends, open[n] / 10, open[n] % 10, minutes);
                    chase.pursueAll(land, trial);
                    if (best == NONE || chase.firstMinute() > latest) {
                        best = 10 * open[n] + minutes;
                        latest = chase.firstMinute();
                    }
                }
            }
            return best;
        }

        int fewestEnds() {
            prepare();
            int room = Math.min(MOST_MORE, MOST_ENDS - course.ends);
            for (int many = 0; many <= room; many++) {
                if (choose(this, 0, many, 0)) {
                    return many;
                }
            }
            return NONE;
        }

        private static boolean choose(Planner plan, int depth, int many, int start) {
            plan.trial.ends = plan.course.ends + depth;
            int caught = plan.chase.pursueTillCaught(plan.land, plan.trial);
            if (caught == NONE || depth >= many || depth >= MOST_MORE) {
                return caught == NONE;
            }
            for (int n = start; n < plan.openCount; n++) {
                int code = plan.open[n];
                // a last one behind the place where they are CAUGHT changes nothing there
                if (depth + 1 == many && plan.course.indexOf(code / 10) >= caught) {
                    continue;
                }
                plan.chosen[depth] = code;
                plan.trial.setEnd(plan.course.ends + depth, code / 10, code % 10, LONGEST_END);
                if (choose(plan, depth + 1, many, n + 1)) {
                    return true;
                }
            }
            return false;
        }

        int minutesParted(int k, int n) {
            if (k >= course.last()) {
                return 0;
            }
            for (int i = 0; i < n; i++) {
                free[i] = 0;
            }
            int here = course.trail[k];
            int next = course.trail[k + 1];
            for (int to = 0; to < next; to++) {
                int end = course.endBetween(here, to);
                if (end != NONE) {
                    free[soonestFree(n)] += 2 * course.length[end];
                }
            }
            return free[soonestFree(n)] + (course.isWindy(k) ? WIND_MINUTES : 0);
        }

        private int soonestFree(int n) {
            int soonest = 0;
            for (int i = 1; i < n; i++) {
                if (free[i] < free[soonest]) {
                    soonest = i;
                }
            }
            return soonest;
        }
    }

    /** All TRAILS that there can be, one by one, by PLACES. */
    private static final class Ways {
        /** Far above all steps among 7 PLACES. */
        private static final int MOST_STEPS = 100000;

        final Land land;
        final Course trial;
        final Chase chase;
        /** From which PLACE on to try next, at each place of the way. */
        final int[] start;
        final int[] best;
        int bestSize;
        int worth;

        Ways(Land land, Course trial, Chase chase) {
            this.land = land;
            this.trial = trial;
            this.chase = chase;
            start = new int[MOST_PLACES];
            best = new int[MOST_PLACES];
        }

        int countAll() {
            int many = 0;
            begin();
            while (many < MOST_STEPS && findNext()) {
                many++;
            }
            return many;
        }

        /** The least MINUTES are worth most: worth is below 0. */
        boolean findLeast() {
            begin();
            for (int step = 0; step < MOST_STEPS && findNext(); step++) {
                weigh(-trial.haresAt(land, trial.last()));
            }
            return bestSize > 0;
        }

        boolean findFurthest(Course course) {
            begin();
            trial.head = course.head;
            trial.wind = course.wind;
            chase.gather(land);
            for (int step = 0; step < MOST_STEPS && findNext(); step++) {
                chase.pursueAll(land, trial);
                weigh(chase.lead());
            }
            return bestSize > 0;
        }

        private void begin() {
            bestSize = 0;
            trial.startAnew(0);
            trial.size = 1;
            trial.trail[0] = 0;
            start[0] = 0;
        }

        /** Goes on from the last TRAIL found; false: there is none behind it. */
        private boolean findNext() {
            if (trial.last() > 0) {
                trial.size--;
            }
            for (int step = 0; step < MOST_STEPS && trial.size > 0; step++) {
                int next = nextPlace();
                if (next == NONE) {
                    trial.size--;
                    continue;
                }
                start[trial.last()] = next + 1;
                trial.trail[trial.size] = next;
                start[trial.size] = 0;
                trial.size++;
                if (next == land.inn()) {
                    return true;
                }
            }
            return false;
        }

        private int nextPlace() {
            int here = trial.trail[trial.last()];
            for (int next = start[trial.last()]; next < land.places && trial.size < MOST_PLACES; next++) {
                if (land.hasPath(here, next) && trial.indexOf(next) == NONE) {
                    return next;
                }
            }
            return NONE;
        }

        /** Of alike ones the first stays. */
        private void weigh(int now) {
            if (bestSize == 0 || now > worth) {
                worth = now;
                bestSize = trial.size;
                System.arraycopy(trial.trail, 0, best, 0, trial.size);
            }
        }
    }

    /** HOUNDS at RANDOM. */
    private static final class Odds {
        static final int MODULUS = 2147483647;
        private static final int FACTOR = 48271;
        private static final int MOST_STEPS = 1000;
        /** Up to 5: of 7 PLACES no FALSE end is towards its own one, or the next one of THE TRAIL. */
        private static final int[] FACTORIALS = {1, 1, 2, 6, 24, 120};

        final Land land;
        final Course course;
        final int[] atPlace;
        long part;
        long whole;
        long lot;
        int winner;
        int soonest;

        Odds(Land land, Course course) {
            this.land = land;
            this.course = course;
            atPlace = new int[MOST_PLACES];
        }

        /** When a HOUND is at the INN that goes no FALSE end. */
        int leastMinute(int kind) {
            return course.head + course.minutesFor(land, kind) + course.windMinutes();
        }

        /** Each FALSE end comes ahead of THE TRAIL in half of all orders: half of its two ways. */
        int meanMinute(int kind) {
            int minute = leastMinute(kind);
            for (int n = 0; n < course.ends; n++) {
                minute += course.length[n];
            }
            return minute;
        }

        /** How many of all orders take no more than so many minutes: part of the whole. */
        void weigh(int minutes) {
            part = 0;
            whole = 0;
            for (int k = 0; k < course.last(); k++) {
                atPlace[k] = course.endsAt(k);
            }
            for (int set = 0; set < 1 << course.ends; set++) {
                long orders = ordersOf(set);
                whole += orders;
                part += 2 * course.lengthOf(set) <= minutes ? orders : 0;
            }
        }

        /** In how many orders just a set of FALSE ends comes ahead of THE TRAIL. */
        private long ordersOf(int set) {
            long orders = 1;
            for (int k = 0; k < course.last(); k++) {
                int ahead = Integer.bitCount(atPlace[k] & set);
                int behind = Integer.bitCount(atPlace[k] & ~set);
                if (ahead < FACTORIALS.length && behind < FACTORIALS.length) {
                    orders *= FACTORIALS[ahead] * FACTORIALS[behind];
                }
            }
            return orders;
        }

        void drawAll(int seed) {
            lot = seed;
            for (int i = 0; i < land.hounds; i++) {
                int minute = leastMinute(land.kinds[i]) + drawOne();
                if (i == 0 || minute < soonest) {
                    winner = i;
                    soonest = minute;
                }
            }
        }

        private int drawOne() {
            int minutes = 0;
            for (int k = 0; k < course.last(); k++) {
                for (int to = 0; to < land.places; to++) {
                    int end = course.endBetween(course.trail[k], to);
                    if (end != NONE) {
                        lot = lot * FACTOR % MODULUS;
                        minutes += lot % 2 == 1 ? 2 * course.length[end] : 0;
                    }
                }
            }
            return minutes;
        }

        static long commonOf(long a, long b) {
            long x = a;
            long y = b;
            for (int step = 0; step < MOST_STEPS && y != 0; step++) {
                long rest = x % y;
                x = y;
                y = rest;
            }
            return x;
        }
    }
}
