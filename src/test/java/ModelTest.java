import java.util.ArrayList;
import java.util.List;
import java.util.Random;

/** PaperTrail against Model, over countries by a fixed seed. */
public final class ModelTest {
    private static final int NONE = -9;
    private static final int COUNTRIES = 700, TEXTS = 20000;
    private static final Random DICE = new Random(20261117);

    public static void main(String[] args) {
        for (int n = 0; n < TEXTS; n++) {
            compareFault();
        }
        for (int n = 0; n < COUNTRIES; n++) {
            compareCountry();
        }
        Check.end();
    }

    private static int upTo(int n) {
        return DICE.nextInt(n);
    }

    private static String blanks() {
        return upTo(4) == 0 ? " ".repeat(upTo(3)) : "";
    }

    /** A text that is nearly a COUNTRY: some signs of it are others, gone, or twice. */
    private static String nearText() {
        StringBuilder s = new StringBuilder(blanks() + "c" + upTo(10) + upTo(10));
        for (int n = upTo(6); n > 0; n--) {
            s.append(blanks()).append(Model.LETTERS.charAt(upTo(6)));
        }
        for (int n = upTo(15); n > 0; n--) {
            s.append(blanks()).append('-').append(upTo(7)).append(upTo(7)).append(1 + upTo(9));
        }
        s.append(blanks());
        for (int n = upTo(3); n > 0 && s.length() > 0; n--) {
            int i = upTo(s.length());
            switch (upTo(4)) {
                case 0 -> s.setCharAt(i, "chqsalt-0123456789 x".charAt(upTo(20)));
                case 1 -> s.deleteCharAt(i);
                case 2 -> s.insert(i, "chqsalt-0123456789 x".charAt(upTo(20)));
                default -> s.setLength(i);
            }
        }
        s.setLength(Math.min(s.length(), 80));
        return s.toString();
    }

    private static void compareFault() {
        String text = nearText();
        PaperTrail x = new PaperTrail();
        Check.write(x, 1, text);
        Check.due("fault of '" + text + "'", x.fault(1), Model.fault(text));
    }

    private static String text() {
        int places = 2 + upTo(6);
        StringBuilder s = new StringBuilder("c" + places + upTo(10));
        for (int n = upTo(5); n > 0; n--) {
            s.append(Model.LETTERS.charAt(upTo(6)));
        }
        List<String> pairs = new ArrayList<>();
        for (int a = 0; a < places; a++) {
            for (int b = a + 1; b < places; b++) {
                pairs.add("" + a + b);
            }
        }
        java.util.Collections.shuffle(pairs, DICE);
        int many = Math.min(pairs.size(), 12 - upTo(4));
        for (String pair : pairs.subList(0, many)) {
            s.append('-').append(pair).append(1 + upTo(9));
        }
        return s.toString();
    }

    private static void compareCountry() {
        String text = text();
        Model m = Model.read(text);
        PaperTrail x = Check.land(text);
        compareWays(x, m);
        List<List<Integer>> trails = m.trails();
        for (int round = 0; round < 3 && !trails.isEmpty(); round++) {
            change(x, m, trails, round == 0);
            for (int n = 0; n < 7; n++) {
                compareSome(x, m, upTo(6));
            }
        }
    }

    /** What was asked earlier leaves nothing behind: the same object goes on, changed. */
    private static void change(PaperTrail x, Model m, List<List<Integer>> trails, boolean first) {
        int blown = upTo(2) == 0 ? upTo(1 << m.places) : 0;
        Check.due("wind " + m, x.wind(blown), m.wind);
        m.wind = blown;
        if (first || upTo(2) == 0) {
            m.trail = trails.get(upTo(trails.size()));
            m.ends = new ArrayList<>();
            Check.fill(x, 0, m.trail.stream().mapToInt(v -> v).toArray());
            Check.due("trail " + m, x.trail(0), m.last());
        } else {
            int n = upTo(m.ends.size() + 1);
            Check.due("off " + n + " " + m, x.off(n), m.ends.size() - n);
            m.ends = new ArrayList<>(m.ends.subList(0, n));
        }
        int head = upTo(10);
        Check.due("head " + m, x.head(head), m.head);
        m.head = head;
        for (int n = upTo(25); n > 0; n--) {
            lay(x, m);
        }
    }

    private static void compareSome(PaperTrail x, Model m, int what) {
        switch (what) {
            case 0 -> compareRun(x, m);
            case 1 -> comparePlans(x, m);
            case 2 -> compareParting(x, m);
            case 3 -> compareRandom(x, m);
            case 4 -> compareFitting(x, m);
            default -> compareWays(x, m);
        }
    }

    private static void lay(PaperTrail x, Model m) {
        int at = upTo(m.places), to = upTo(m.places), length = 1 + upTo(5);
        int want = m.ends.size() + 1;
        if (!m.admits(at, to)) {
            want = PaperTrail.FINDING;
        } else if (m.ends.size() == 8) {
            want = PaperTrail.FULL;
        } else {
            m.ends.add(new Model.End(at, to, length));
        }
        Check.due("lure " + at + to + length + " " + m, x.lure(at, to, length), want);
    }

    private static void compareWays(PaperTrail x, Model m) {
        List<List<Integer>> trails = m.trails();
        Check.due("trails " + m, x.trails(), trails.size());
        List<Integer> least = null, furthest = null;
        int minutes = 0, lead = 0;
        for (List<Integer> way : trails) {
            Model other = m.with(way, List.of());
            int all = other.hares()[other.last()];
            if (least == null || all < minutes) {
                least = way;
                minutes = all;
            }
            if (!m.kinds.isEmpty() && (furthest == null || other.lead() > lead)) {
                furthest = way;
                lead = other.lead();
            }
        }
        Check.due("least " + m, x.least(4), least == null ? NONE : minutes);
        sameRow("least", x, m, 4, least);
        Check.due("route " + m, x.route(5), furthest == null ? NONE : furthest.size() - 1);
        if (furthest != null) {
            Check.due("route, ahead " + m, x.asked(), lead);
        }
        sameRow("route", x, m, 5, furthest);
    }

    private static void sameRow(String what, PaperTrail x, Model m, int r, List<Integer> want) {
        if (want != null) {
            Check.holds(x, what + " " + m, r, want.stream().mapToInt(v -> v).toArray());
        }
    }

    private static void compareRun(PaperTrail x, Model m) {
        int[] hares = m.hares();
        List<Model.Way> all = m.chase(m.kinds);
        for (int i = 0; i < all.size(); i++) {
            compareWay(x, m, i, all.get(i));
        }
        for (int k = 0; k <= m.last(); k++) {
            int place = k;
            Check.due("hares " + k + " " + m, x.hares(k), hares[k]);
            List<Integer> order = new ArrayList<>();
            for (int i = 0; i < all.size(); i++) {
                order.add(i);
            }
            order.sort(java.util.Comparator.comparingInt(i -> all.get(i).comes[place]));
            Check.due("pack " + k + " " + m, x.pack(k, 3), all.size());
            sameRow("pack", x, m, 3, order);
            int first = all.stream().mapToInt(w -> w.leaves[place]).min().orElse(0), set = 0;
            for (int i = 0; i < all.size() && m.check(k); i++) {
                set |= all.get(i).leaves[k] == first ? 1 << i : 0;
            }
            Check.due("call " + k + " " + m, x.call(k), set);
        }
        int caught = m.caughtAt();
        Check.due("caught " + m, x.caught(), caught);
        if (caught != NONE) {
            int by = 0;
            for (int i = 1; i < all.size(); i++) {
                by = all.get(i).comes[caught] < all.get(by).comes[caught] ? i : by;
            }
            Check.due("caught by " + m, x.asked(), by);
        }
        if (!all.isEmpty()) {
            Check.tells(x, "ahead " + m, x.ahead(), 1, m.lead());
        }
        int paper = hares[m.last()] + m.ends.stream().mapToInt(Model.End::length).sum();
        Check.due("paper " + m, x.paper(), paper);
    }

    private static void compareWay(PaperTrail x, Model m, int i, Model.Way way) {
        int kind = m.kinds.get(i);
        for (int k = 0; k <= m.last(); k++) {
            Check.tells(x, "comes " + i + k + " " + m, x.comes(i, k), way.comes[k], way.leaves[k]);
            for (int j = k + 1; j <= m.last(); j++) {
                int minutes = m.paths[m.trail.get(k)][m.trail.get(j)];
                Check.due("across " + i + k + j + " " + m, x.across(i, k, j), minutes > 0 ? 1 : NONE);
                if (minutes > 0) {
                    Check.due("across, sooner", x.asked(), way.comes[j] - way.comes[k] - Model.pace(kind, minutes));
                }
            }
        }
        Check.tells(x, "at the INN " + m, x.hound(i, 1), 1, way.comes[m.last()]);
        Check.tells(x, "lost " + m, x.hound(i, 2), 1, way.lost);
        int gone = way.gone.stream().mapToInt(e -> 1 << m.ends.indexOf(e)).sum();
        Check.due("gone " + i + " " + m, x.gone(i), gone);
        if (kind == 2 || kind == 5) {
            Check.due("mark of a SLOW one " + m, x.mark(i, 2), way.heard);
        }
        if (kind == 3) {
            Check.due("mark of a CASTER " + m, x.mark(i, 3), way.gone.size());
        }
        if (kind == 4) {
            Check.due("mark of a LEADER " + m, x.mark(i, 4), way.lost);
        }
        if (kind == 1 || kind == 4) {
            Check.due("mark of a QUICK one " + m, x.mark(i, 1), m.goes(0) - m.goes(kind));
        }
    }

    private static void comparePlans(PaperTrail x, Model m) {
        int[] best = m.best();
        if (m.ends.size() == 8) {
            Check.due("best " + m, x.best(), PaperTrail.FULL);
        } else {
            Check.due("best " + m, x.best(), best == null ? NONE : best[0]);
            if (best != null) {
                Check.due("best, when " + m, x.asked(), best[1]);
            }
        }
        if (upTo(4) == 0) {
            List<Integer> fewest = m.fewest();
            Check.due("fewest " + m, x.fewest(3), fewest == null ? NONE : fewest.size());
            sameRow("fewest", x, m, 3, fewest);
        }
    }

    private static void compareParting(PaperTrail x, Model m) {
        for (int k = 0; k <= m.last(); k++) {
            int n = 1 + upTo(9);
            Check.due("parted " + k + " " + n + " " + m, x.parted(k, n), m.parted(k, n));
            Check.due("parted " + k + " 1 " + m, x.parted(k, 1), m.parted(k, 1));
        }
        int sack = upTo(100), left = sack, want = NONE;
        for (int k = 0; k < m.last() && want == NONE; k++) {
            left -= m.path(k) + m.endsAt(k).stream().mapToInt(Model.End::length).sum();
            want = left < 0 ? m.trail.get(k) : NONE;
        }
        Check.due("empty " + sack + " " + m, x.empty(sack), want);
    }

    private static void compareRandom(PaperTrail x, Model m) {
        long[] ways = m.lossesAtRandom();
        long all = 0, sum = 0;
        for (int lost = 0; lost < 300; lost++) {
            all += ways[lost];
            sum += ways[lost] * lost;
        }
        for (int i = 0; i < m.kinds.size(); i++) {
            int goes = m.goes(m.kinds.get(i));
            int minute = Math.max(0, goes + upTo(60) - 5);
            long part = 0;
            for (int lost = 0; lost < 300 && goes + lost <= minute; lost++) {
                part += ways[lost];
            }
            sameFraction("chance " + i + " by " + minute, x, m, x.chance(i, minute), part, all);
            sameFraction("mid " + i, x, m, x.mid(i), goes * all + sum, all);
        }
        int seed = 1 + upTo(2147483646);
        int[] first = m.run(seed);
        Check.due("run " + seed + " " + m, x.run(seed), first == null ? NONE : first[0]);
        if (first != null) {
            Check.due("run, when " + m, x.asked(), first[1]);
        }
    }

    private static void sameFraction(String what, PaperTrail x, Model m, int got, long part, long all) {
        long common = java.math.BigInteger.valueOf(part).gcd(java.math.BigInteger.valueOf(all)).longValue();
        Check.fraction(x, what + " " + m, got, part / common, all / common);
    }

    private static void compareFitting(PaperTrail x, Model m) {
        int[] row = m.chase(List.of(upTo(6))).get(0).comes;
        for (int k = 0; k < row.length; k++) {
            int dice = upTo(8);
            row[k] = dice < 3 ? NONE : dice == 7 ? row[k] + upTo(2) : row[k];
        }
        Check.fill(x, 2, row);
        Check.due("kinds " + java.util.Arrays.toString(row) + " " + m, x.kinds(2), m.fits(row));
    }
}
