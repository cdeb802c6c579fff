import java.util.ArrayList;
import java.util.Arrays;
import java.util.Comparator;
import java.util.List;
import java.util.TreeSet;
import java.util.regex.Matcher;
import java.util.regex.Pattern;

/**
 * The document told a second time, by other means (regular expressions, all orders, minute by minute),
 * so that ModelTest can hold PaperTrail against it.
 */
final class Model {
    static final int NONE = -9;
    static final String LETTERS = "hqsalt";

    record End(int from, int to, int length) { }

    int places;
    int head;
    int wind;
    List<Integer> kinds = new ArrayList<>();
    int[][] paths = new int[7][7];
    List<Integer> trail = new ArrayList<>();
    List<End> ends = new ArrayList<>();

    private static final Pattern FORM =
        Pattern.compile(" *c[2-7][0-9](?: *[hqsalt]){0,4}(?: *-[0-6][0-6][1-9]){0,12} *");

    /** Whether some COUNTRY begins with a text. */
    private static boolean canGoOn(String text) {
        Matcher m = FORM.matcher(text);
        boolean fits = m.matches();
        if (!fits && !m.hitEnd()) {
            return false;
        }
        String bare = text.replace(" ", "");
        int places = bare.length() > 1 ? bare.charAt(1) - '0' : 7;
        List<String> told = new ArrayList<>();
        for (int i = bare.indexOf('-'); i >= 0; i = bare.indexOf('-', i + 1)) {
            String item = bare.substring(i + 1, Math.min(i + 3, bare.length()));
            for (char c : item.toCharArray()) {
                if (c - '0' >= places) {
                    return false;
                }
            }
            if (item.length() == 2) {
                String back = "" + item.charAt(1) + item.charAt(0);
                if (item.equals(back) || told.contains(item) || told.contains(back)) {
                    return false;
                }
                told.add(item);
            }
        }
        return true;
    }

    static int fault(String text) {
        for (int i = 0; i < text.length(); i++) {
            if (!canGoOn(text.substring(0, i + 1))) {
                return i;
            }
        }
        return FORM.matcher(text).matches() ? NONE : text.length();
    }

    static Model read(String text) {
        Model m = new Model();
        String bare = text.replace(" ", "");
        m.places = bare.charAt(1) - '0';
        m.head = bare.charAt(2) - '0';
        int i = 3;
        while (i < bare.length() && bare.charAt(i) != '-') {
            m.kinds.add(LETTERS.indexOf(bare.charAt(i++)));
        }
        for (; i < bare.length(); i += 4) {
            int x = bare.charAt(i + 1) - '0', y = bare.charAt(i + 2) - '0';
            m.paths[x][y] = m.paths[y][x] = bare.charAt(i + 3) - '0';
        }
        return m;
    }

    Model with(List<Integer> otherTrail, List<End> otherEnds) {
        Model m = new Model();
        m.places = places;
        m.head = head;
        m.wind = wind;
        m.kinds = kinds;
        m.paths = paths;
        m.trail = otherTrail;
        m.ends = otherEnds;
        return m;
    }

    static int pace(int kind, int minutes) {
        return switch (kind) {
            case 1, 4 -> minutes / 2 + minutes % 2;
            case 2 -> minutes + minutes;
            case 5 -> minutes + minutes + 1;
            default -> minutes;
        };
    }

    int path(int k) {
        return paths[trail.get(k)][trail.get(k + 1)];
    }

    int last() {
        return trail.size() - 1;
    }

    boolean windy(int k) {
        return k < last() && (wind & 1 << trail.get(k)) != 0;
    }

    List<End> endsAt(int k) {
        List<End> list = new ArrayList<>(ends.stream().filter(e -> k < last() && e.from == trail.get(k)).toList());
        list.sort(Comparator.comparingInt(End::to));
        return list;
    }

    boolean check(int k) {
        return windy(k) || !endsAt(k).isEmpty();
    }

    int[] hares() {
        int[] minutes = new int[trail.size()];
        for (int k = 1; k < minutes.length; k++) {
            minutes[k] = minutes[k - 1] + path(k - 1);
        }
        return minutes;
    }

    /** One HOUND's way: when it comes, when it leaves, which FALSE ends it goes, how often a CALL helps. */
    static final class Way {
        int[] comes;
        int[] leaves;
        List<End> gone = new ArrayList<>();
        int heard;
        int lost;
    }

    /** Minute by minute at each place, HOUNDS by numbers within a minute. */
    List<Way> chase(List<Integer> pack) {
        List<Way> all = new ArrayList<>();
        for (int i = 0; i < pack.size(); i++) {
            Way way = new Way();
            way.comes = new int[trail.size()];
            way.leaves = new int[trail.size()];
            way.comes[0] = head;
            way.leaves[last()] = NONE;
            all.add(way);
        }
        for (int k = 0; k < last(); k++) {
            TreeSet<Integer> calls = new TreeSet<>();
            for (int minute = 0; minute < 1000; minute++) {
                for (int i = 0; i < pack.size(); i++) {
                    Way way = all.get(i);
                    if (way.comes[k] == minute) {
                        way.leaves[k] = minute + loss(way, pack.get(i), k, minute, calls);
                        way.lost += way.leaves[k] - minute;
                        calls.add(way.leaves[k]);
                        way.comes[k + 1] = way.leaves[k] + pace(pack.get(i), path(k));
                    }
                }
            }
        }
        return all;
    }

    private int loss(Way way, int kind, int k, int minute, TreeSet<Integer> calls) {
        if (!check(k)) {
            return 0;
        }
        if ((kind == 2 || kind == 5) && calls.floor(minute) != null) {
            way.heard++;
            return 0;
        }
        if (kind == 4) {
            return 1;
        }
        int minutes = windy(k) ? 2 : 0;
        for (End end : endsAt(k)) {
            boolean lesser = end.to < trail.get(k + 1);
            if (windy(k) || lesser == (kind != 3)) {
                way.gone.add(end);
                minutes += 2 * end.length;
            }
        }
        return minutes;
    }

    int firstAtInn() {
        return chase(kinds).stream().mapToInt(w -> w.comes[last()]).min().orElseThrow();
    }

    int caughtAt() {
        int[] hares = hares();
        List<Way> all = chase(kinds);
        for (int k = 1; k < trail.size(); k++) {
            int place = k;
            if (all.stream().anyMatch(w -> w.comes[place] <= hares[place])) {
                return k;
            }
        }
        return NONE;
    }

    boolean admits(int x, int to) {
        int k = trail.indexOf(x);
        return k >= 0 && k < last() && paths[x][to] > 0 && trail.get(k + 1) != to
            && ends.stream().noneMatch(e -> e.from == x && e.to == to);
    }

    private Model laid(int code, int length) {
        List<End> more = new ArrayList<>(ends);
        more.add(new End(code / 10, code % 10, length));
        return with(trail, more);
    }

    private List<Integer> open() {
        List<Integer> codes = new ArrayList<>();
        for (int code = 0; code < 77; code++) {
            if (code % 10 < 7 && admits(code / 10, code % 10)) {
                codes.add(code);
            }
        }
        return codes;
    }

    /** The code and the minute, or null. */
    int[] best() {
        int[] best = null;
        for (int code : open()) {
            for (int length = 1; length <= 5 && !kinds.isEmpty(); length++) {
                int minute = laid(code, length).firstAtInn();
                if (best == null || minute > best[1]) {
                    best = new int[] {10 * code + length, minute};
                }
            }
        }
        return best;
    }

    /** All rows of so many rising codes, in order; the first one that helps, or null. */
    List<Integer> fewest() {
        for (int many = 0; many <= 3 && ends.size() + many <= 8; many++) {
            List<Integer> row = helping(many, -1);
            if (row != null) {
                return row;
            }
        }
        return null;
    }

    private List<Integer> helping(int many, int above) {
        if (many == 0) {
            return caughtAt() == NONE ? new ArrayList<>() : null;
        }
        for (int code : open()) {
            if (code > above) {
                List<Integer> rest = laid(code, 5).helping(many - 1, code);
                if (rest != null) {
                    rest.add(0, code);
                    return rest;
                }
            }
        }
        return null;
    }

    List<List<Integer>> trails() {
        List<List<Integer>> all = new ArrayList<>();
        spread(new ArrayList<>(List.of(0)), all);
        return all;
    }

    private void spread(List<Integer> way, List<List<Integer>> all) {
        int here = way.get(way.size() - 1);
        if (here == places - 1) {
            all.add(new ArrayList<>(way));
            return;
        }
        for (int next = 0; next < places; next++) {
            if (paths[here][next] > 0 && !way.contains(next)) {
                way.add(next);
                spread(way, all);
                way.remove(way.size() - 1);
            }
        }
    }

    int lead() {
        return firstAtInn() - hares()[last()];
    }

    /** Minute by minute: each HOUND that is back takes the next one. */
    int parted(int k, int n) {
        if (k == last()) {
            return 0;
        }
        List<int[]> options = new ArrayList<>();
        endsAt(k).forEach(e -> options.add(new int[] {e.to, 2 * e.length}));
        options.add(new int[] {trail.get(k + 1), NONE});
        options.sort(Comparator.comparingInt(o -> o[0]));
        int[] back = new int[n];
        int taken = 0;
        for (int minute = 0; ; minute++) {
            for (int i = 0; i < n; i++) {
                if (back[i] == minute) {
                    int[] option = options.get(taken++);
                    if (option[1] == NONE) {
                        return minute + (windy(k) ? 2 : 0);
                    }
                    back[i] = minute + option[1];
                }
            }
        }
    }

    /** By all orders at each CHECK: how many ways there are to lose so many minutes. */
    long[] lossesAtRandom() {
        long[] ways = new long[300];
        ways[0] = 1;
        for (int k = 0; k < last(); k++) {
            long[] here = new long[300];
            List<Integer> items = new ArrayList<>();
            endsAt(k).forEach(e -> items.add(2 * e.length));
            items.add(NONE);
            orders(items, windy(k) ? 2 : 0, false, here);
            long[] both = new long[300];
            for (int a = 0; a < 300; a++) {
                for (int b = 0; ways[a] > 0 && a + b < 300; b++) {
                    both[a + b] += ways[a] * here[b];
                }
            }
            ways = both;
        }
        return ways;
    }

    private static void orders(List<Integer> left, int minutes, boolean found, long[] into) {
        if (left.isEmpty()) {
            into[minutes]++;
            return;
        }
        for (int n = 0; n < left.size(); n++) {
            List<Integer> rest = new ArrayList<>(left);
            int item = rest.remove(n);
            boolean now = found || item == NONE;
            orders(rest, minutes + (now ? 0 : item), now, into);
        }
    }

    int goes(int kind) {
        int all = head;
        for (int k = 0; k < last(); k++) {
            all += pace(kind, path(k));
        }
        return all;
    }

    /** Who is first, and when. */
    int[] run(long seed) {
        int[] first = null;
        long lot = seed;
        for (int i = 0; i < kinds.size(); i++) {
            int minute = goes(kinds.get(i));
            for (int k = 0; k < last(); k++) {
                minute += windy(k) ? 2 : 0;
                for (End end : endsAt(k)) {
                    lot = Math.floorMod(lot * 48271, 2147483647L);
                    minute += (lot & 1) * 2 * end.length;
                }
            }
            if (first == null || minute < first[1]) {
                first = new int[] {i, minute};
            }
        }
        return first;
    }

    int fits(int[] row) {
        int set = 0;
        for (int kind = 0; kind < 6; kind++) {
            int[] comes = chase(List.of(kind)).get(0).comes;
            boolean all = true;
            for (int k = 0; k < row.length; k++) {
                all &= row[k] == NONE || row[k] == comes[k];
            }
            set |= all ? 1 << kind : 0;
        }
        return set;
    }

    @Override
    public String toString() {
        StringBuilder s = new StringBuilder("c" + places + head);
        kinds.forEach(k -> s.append(LETTERS.charAt(k)));
        for (int x = 0; x < 7; x++) {
            for (int y = x + 1; y < 7; y++) {
                s.append(paths[x][y] > 0 ? "-" + x + y + paths[x][y] : "");
            }
        }
        return s + " " + trail + " " + Arrays.toString(ends.toArray()) + " wind " + wind;
    }
}
