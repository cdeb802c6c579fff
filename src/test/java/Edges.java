import java.nio.file.Files;
import java.nio.file.Path;
import java.util.ArrayList;
import java.util.List;
import java.util.regex.Matcher;
import java.util.regex.Pattern;

/** Sentences of the document by its own words, each with a test of its own; 0 stands for its 'Terms'. */
final class Edges {
    private static final int PROMISES = 48;
    private static final Path DOC = Path.of("../shared/DOC.md");

    record Sentence(int promise, String words) { }

    /** PATHS for THE TRAIL 0 .. 6, of 9 minutes each, the longest there is; with 0-2, 1-3, 3-5 beside it. */
    static final String LONG = "-019-129-239-349-459-569-131-021-351";
    /** 8 of the FALSE ends that there can be on it; two that are left are 3 towards 5, 5 towards 3. */
    static final int[][] ENDS = {{1, 0}, {2, 1}, {3, 2}, {4, 3}, {5, 4}, {1, 3}, {3, 1}, {0, 2}};

    static PaperTrail longRun(String headAndHounds) {
        return Check.land("c7" + headAndHounds + LONG, 0, 1, 2, 3, 4, 5, 6);
    }

    static void layEnds(PaperTrail x, int many, int minutes) {
        for (int n = 0; n < many; n++) {
            Check.due("lure " + n, x.lure(ENDS[n][0], ENDS[n][1], minutes), n + 1);
        }
    }

    /** Numbers just outside of 0 .. n - 1, and far outside. */
    static int[] outside(int n) {
        return new int[] {-1, n, Integer.MIN_VALUE, Integer.MAX_VALUE};
    }

    /**
     * An object with something of everything, so that a refused call would have much to change: THE TRAIL 0 1 2 4 5 6
     * with 3 FALSE ends and WIND, a kept COUNTRY (1), ROWS 0 and 3, TEXTS 0 and 2, an asked() and a fraction.
     */
    static PaperTrail rich() {
        PaperTrail x = Check.land("c73hqsa" + Check.PATHS, 0, 1, 2, 4, 5, 6);
        x.lure(2, 0, 1);
        x.lure(1, 4, 2);
        x.wind(1 << 4);
        x.keep(1);
        x.lure(0, 2, 3);
        Check.fill(x, 3, 5, 31337, 7);
        Check.write(x, 2, "no country");
        Check.fraction(x, "rich: chance", x.chance(0, 33), 5, 8);
        Check.tells(x, "rich: at", x.at(3, 1), 1, 31337);
        return x;
    }

    private static final List<Sentence> SAID = new ArrayList<>();

    private Edges() { }

    static void says(int promise, String words, Runnable test) {
        SAID.add(new Sentence(promise, words));
        int checks = Check.made(), wrong = Check.wrong();
        test.run();
        if (Check.wrong() > wrong) {
            System.out.println("  so promise " + promise + " is broken: " + words);
        }
        Check.due("checks of '" + words + "'", Check.made() > checks ? 1 : 0, 1);
    }

    /** Whatever the document says has a test, and no test says what the document does not. */
    static void coverDocument() throws Exception {
        if (!Files.exists(DOC)) {
            System.out.println("no document to hold the sentences against");
            return;
        }
        String doc = Files.readString(DOC);
        for (int promise = 0; promise <= PROMISES; promise++) {
            coverPromise(promise, textOf(doc, promise));
        }
    }

    private static String textOf(String doc, int promise) {
        String heading = promise == 0 ? "## Terms\n" : "## Promise " + promise + ":";
        int from = doc.indexOf(heading), to = doc.indexOf("\n## ", from + 1);
        if (from < 0 || to < 0) {
            return "";
        }
        String text = doc.substring(from + heading.length(), to);
        if (promise > 0) {
            return text.substring(text.indexOf("`: ") + 3).replaceAll("\\s+", " ");
        }
        return text.replaceAll("(?m)^Ahead of the calls.*$|```(text)?|======== \\d", " ").replaceAll("\\s+", " ");
    }

    private static void coverPromise(int promise, String text) {
        boolean[] covered = new boolean[text.length()];
        for (Sentence sentence : SAID) {
            if (sentence.promise == promise) {
                Matcher m = Pattern.compile("(?<!\\w)" + Pattern.quote(sentence.words) + "(?!\\w)").matcher(text);
                int found = 0;
                for (; m.find(); found++) {
                    java.util.Arrays.fill(covered, m.start(), m.end(), true);
                }
                Check.due("promise " + promise + " says '" + sentence.words + "'", found > 0 ? 1 : 0, 1);
            }
        }
        StringBuilder rest = new StringBuilder();
        for (int i = 0; i < covered.length; i++) {
            if (!covered[i] && Character.isLetterOrDigit(text.charAt(i))) {
                rest.append(text.charAt(i));
            }
        }
        Check.due("letters of promise " + promise + " without a test, '" + rest + "',", rest.length(), 0);
    }
}
