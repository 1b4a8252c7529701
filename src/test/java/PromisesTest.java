// Answers worked out by hand from the document, promise by promise.
public final class PromisesTest {
    private static final int A = 1, C = 2, G = 4, T = 8;
    private static int wrong = 0;
    private static int checked = 0;

    private static void due(String what, long got, long want) {
        checked++;
        if (got != want) {
            wrong++;
            System.out.println(what + " answered " + got + ", due is " + want);
        }
    }

    // One letter a taxon: ACGT, or '*' for the set 15.
    private static void column(ParsimonyPhylogeny x, int site, String letters) {
        for (int taxon = 0; taxon < letters.length(); taxon++) {
            char letter = letters.charAt(taxon);
            x.states(taxon, site, letter == '*' ? 15 : 1 << "ACGT".indexOf(letter));
        }
    }

    private static ParsimonyPhylogeny of(String... columns) {
        ParsimonyPhylogeny x = new ParsimonyPhylogeny(columns[0].length(), columns.length);
        for (int site = 0; site < columns.length; site++) {
            column(x, site, columns[site]);
        }
        return x;
    }

    private static void promise1NewObject() {
        int[] given = {Integer.MIN_VALUE, -1, 0, 2, 3, 4, 5, 6, 7, 100, Integer.MAX_VALUE};
        for (int taxa : given) {
            for (int sites : given) {
                int n = Math.max(3, Math.min(6, taxa));
                int m = Math.max(1, Math.min(8, sites));
                clamped("1: new(" + taxa + ", " + sites + ") ", new ParsimonyPhylogeny(taxa, sites), n, m);
            }
        }
        for (int sites = 1; sites <= 8; sites++) {
            clamped("1: new(6, " + sites + ") ", new ParsimonyPhylogeny(6, sites), 6, sites);
        }
        ParsimonyPhylogeny one = new ParsimonyPhylogeny(4, 2);
        ParsimonyPhylogeny two = new ParsimonyPhylogeny(4, 2);
        one.states(0, 0, A);
        one.weight(0, 7);
        due("1: states of another object", two.states(0, 0, C), 15);
        due("1: weight of another object", two.weight(0, 2), 1);
    }

    private static void clamped(String name, ParsimonyPhylogeny x, int n, int m) {
        due(name + "least", x.least(), 0);
        due(name + "bestTree", x.bestTree(), 0);
        due(name + "taxon n", x.states(n, 0, 1), -1);
        due(name + "site m", x.states(0, m, 1), -2);
        due(name + "weight of site m", x.weight(m, 1), -2);
        for (int site = 0; site < m; site++) {
            for (int taxon = 0; taxon < n; taxon++) {
                due(name + "states " + taxon + " " + site, x.states(taxon, site, 15), 15);
            }
            due(name + "weight " + site, x.weight(site, 1), 1);
        }
    }

    private static void promise2States() {
        ParsimonyPhylogeny x = new ParsimonyPhylogeny(5, 3);
        int old = 15;
        for (int set = 1; set <= 15; set++) {
            due("2: states(4, 2, " + set + ")", x.states(4, 2, set), old);
            old = set;
        }
        x.states(4, 2, 6);
        int[] badTaxa = {-1, 5, 6, Integer.MIN_VALUE, Integer.MAX_VALUE, 1 << 28};
        int[] badSites = {-1, 3, 8, Integer.MIN_VALUE, Integer.MAX_VALUE};
        int[] badSets = {0, 16, -1, Integer.MIN_VALUE, Integer.MAX_VALUE};
        for (int bad : badTaxa) {
            due("2: taxon " + bad, x.states(bad, 2, 1), -1);
            due("2: taxon " + bad + " and all else wrong", x.states(bad, 9, 0), -1);
        }
        for (int bad : badSites) {
            due("2: site " + bad, x.states(4, bad, 1), -2);
            due("2: site " + bad + " and set wrong", x.states(4, bad, 16), -2);
        }
        for (int bad : badSets) {
            due("2: set " + bad, x.states(4, 2, bad), -3);
        }
        due("2: unchanged by wrong calls", x.states(4, 2, 6), 6);
        for (int taxon = 0; taxon < 5; taxon++) {
            for (int site = 0; site < 3; site++) {
                int held = taxon == 4 && site == 2 ? 6 : 15;
                due("2: others unchanged " + taxon + " " + site, x.states(taxon, site, taxon + site + 1), held);
            }
        }
        for (int taxon = 0; taxon < 5; taxon++) {
            for (int site = 0; site < 3; site++) {
                due("2: each its own " + taxon + " " + site, x.states(taxon, site, 1), taxon + site + 1);
            }
        }
    }

    private static void promise3Weight() {
        ParsimonyPhylogeny x = new ParsimonyPhylogeny(4, 3);
        int old = 1;
        for (int weight = 0; weight <= 9; weight++) {
            due("3: weight(2, " + weight + ")", x.weight(2, weight), old);
            old = weight;
        }
        int[] badSites = {-1, 3, 8, Integer.MIN_VALUE, Integer.MAX_VALUE};
        int[] badWeights = {-1, 10, Integer.MIN_VALUE, Integer.MAX_VALUE};
        for (int bad : badSites) {
            due("3: site " + bad, x.weight(bad, 3), -2);
            due("3: site " + bad + " and weight wrong", x.weight(bad, 10), -2);
        }
        for (int bad : badWeights) {
            due("3: weight " + bad, x.weight(2, bad), -4);
        }
        due("3: unchanged by wrong calls", x.weight(2, 0), 9);
        due("3: another site", x.weight(0, 0), 1);
        due("3: a third site", x.weight(1, 0), 1);
        due("3: weight 0 is kept", x.weight(2, 5), 0);
    }

    private static void promise4Trees() {
        int[] want = {1, 1, 1, 1, 3, 15, 105, 105, 105};
        for (int taxa = 0; taxa <= 8; taxa++) {
            due("4: trees of " + taxa, new ParsimonyPhylogeny(taxa, 2).trees(), want[taxa]);
        }
    }

    private static void promise5Score() {
        ParsimonyPhylogeny three = of("ACG");
        due("5: three states, three taxa", three.score(0), 2);
        three.states(0, 0, C | G);
        due("5: taxon 0 may join either", three.score(0), 1);
        three.states(1, 0, 15);
        due("5: taxon 1 may be anything", three.score(0), 0);

        ParsimonyPhylogeny four = of("AACC", "ACAC");
        due("5: 01|23 and 02|13 on 03|12", four.score(0), 4);
        due("5: on 13|02", four.score(1), 3);
        due("5: on 23|01", four.score(2), 3);
        four.weight(0, 9);
        four.weight(1, 2);
        due("5: weighted on 03|12", four.score(0), 22);
        due("5: weighted on 13|02", four.score(1), 20);
        due("5: weighted on 23|01", four.score(2), 13);
        four.weight(0, 0);
        due("5: weight 0 leaves a site out", four.score(0), 4);

        ParsimonyPhylogeny six = of("ACGTAC", "ACGTAC", "ACGTAC", "ACGTAC", "ACGTAC", "ACGTAC", "ACGTAC", "ACGTAC");
        for (int site = 0; site < 8; site++) {
            six.weight(site, 9);
        }
        // 04|1235 and 15|0234 both stand in the tree of least score.
        due("5: greatest weights", six.least(), 8 * 9 * 3);
        badCodes();
    }

    private static void badCodes() {
        int[] count = {0, 0, 0, 1, 3, 15, 105};
        for (int taxa = 3; taxa <= 6; taxa++) {
            ParsimonyPhylogeny x = new ParsimonyPhylogeny(taxa, 1);
            int[] bad = {-1, count[taxa], count[taxa] + 1, Integer.MIN_VALUE, Integer.MAX_VALUE};
            for (int code : bad) {
                due("5: code " + code + " of " + taxa + " taxa", x.score(code), -5);
            }
            due("5: last code of " + taxa + " taxa", x.score(count[taxa] - 1), 0);
        }
    }

    private static void promise6Least() {
        due("6: one state", of("AAAA").least(), 0);
        due("6: one odd taxon", of("ACAAAA").least(), 1);
        due("6: odd taxon 0", of("CAAAAA").least(), 1);
        due("6: two and two", of("AACC").least(), 1);
        due("6: two splits that clash", of("AACC", "ACAC").least(), 3);
        due("6: three taxa", of("ACG").least(), 2);
        ParsimonyPhylogeny x = of("AACC", "ACAC");
        x.weight(0, 2);
        x.weight(1, 3);
        due("6: the heavier site wins", x.least(), 7);
    }

    // Each pair of sites leaves one tree of five taxa that fits both, so the
    // best tree tells where the numbered edges lie.
    private static void promise7BestTree() {
        due("7: all equal", of("AAAAA").bestTree(), 0);
        due("7: 03|12", of("ACCA").bestTree(), 0);
        due("7: 13|02", of("ACAC").bestTree(), 1);
        due("7: 23|01", of("AACC").bestTree(), 2);
        due("7: first of two", of("AACC", "ACAC").bestTree(), 1);

        due("7: far half of the edge to 0", of("ACCAA", "ACCAC").bestTree(), 0);
        due("7: edge 1, taxon 3 on 0", of("ACCAC", "ACAAC").bestTree(), 3);
        due("7: edge 2, taxon 3 on 0", of("ACCAC", "AACAC").bestTree(), 6);
        due("7: near half of the edge to 0", of("ACCAA", "ACCCA").bestTree(), 9);
        due("7: edge to taxon 3", of("ACCAA", "AAACC").bestTree(), 12);
        due("7: edge 0, taxon 3 on 1", of("ACACA", "ACCCA").bestTree(), 1);
        due("7: edge 2, taxon 3 on 1", of("ACACA", "AACAC").bestTree(), 7);
        due("7: far half of the edge to 1", of("ACACC", "ACAAC").bestTree(), 4);
        due("7: near half of the edge to 1", of("ACACC", "ACACA").bestTree(), 10);
        due("7: edge to taxon 3 on 1", of("ACACC", "AAACC").bestTree(), 13);
        due("7: edge 0, taxon 3 on 2", of("AACCA", "ACCCA").bestTree(), 2);
        due("7: edge 1, taxon 3 on 2", of("AACCA", "ACAAC").bestTree(), 5);
        due("7: far half of the edge to 2", of("AACCC", "AACAC").bestTree(), 8);
        due("7: near half of the edge to 2", of("AACCC", "AACCA").bestTree(), 11);
        due("7: edge to taxon 3 on 2", of("AACCC", "AAACC").bestTree(), 14);
        // Six taxa: 3 on 0, 4 on 3, 5 on 5 (the near half of edge 3).
        due("7: six taxa, near halves", of("ACCCCA", "ACCCAA", "ACCAAA").bestTree(), 0 + 3 * 3 + 15 * 5);
        due("7: six taxa, far halves", of("ACCAAC", "ACCAAA", "ACCACC").bestTree(), 0);
        due("7: six taxa, last code", of("AACCCC", "AAACCC", "AAAACC").bestTree(), 2 + 3 * 4 + 15 * 6);
    }

    private static void promise8Within() {
        ParsimonyPhylogeny x = of("AACC", "ACAC");
        x.weight(0, 9);
        x.weight(1, 2);
        // The scores are 22, 20 and 13.
        due("8: within(0)", x.within(0), 1);
        due("8: within(6)", x.within(6), 1);
        due("8: within(7)", x.within(7), 2);
        due("8: within(8)", x.within(8), 2);
        due("8: within(9)", x.within(9), 3);
        due("8: within(10)", x.within(10), 3);
        due("8: within greatest", x.within(Integer.MAX_VALUE), 3);
        due("8: within nearly greatest", x.within(Integer.MAX_VALUE - 12), 3);
        due("8: within(-1)", x.within(-1), 0);
        due("8: within least number", x.within(Integer.MIN_VALUE), 0);
        due("8: all trees alike", new ParsimonyPhylogeny(6, 8).within(0), 105);
        due("8: all trees alike, extra -1", new ParsimonyPhylogeny(6, 8).within(-1), 0);
        due("8: one tree", of("ACG").within(0), 1);
    }

    private static void promise9Support() {
        ParsimonyPhylogeny x = of("AACC");
        due("9: 01|23", x.support(3), 1);
        due("9: 23|01", x.support(12), 1);
        due("9: 02|13", x.support(5), 0);
        due("9: 13|02", x.support(10), 0);
        due("9: 03|12", x.support(9), 0);
        for (int taxon = 0; taxon < 4; taxon++) {
            due("9: taxon " + taxon + " alone", x.support(1 << taxon), 1);
            due("9: all but taxon " + taxon, x.support(15 ^ 1 << taxon), 1);
        }
        due("9: empty", x.support(0), 0);
        due("9: everyone", x.support(15), 0);
        due("9: empty, higher bits", x.support(16 + 64), 0);
        due("9: everyone, higher bits", x.support(-1), 0);
        due("9: 01|23, higher bits", x.support(3 | 1 << 4 | 1 << 31), 1);
        due("9: 23|01, negative", x.support(-4), 1);
        due("9: least number", x.support(Integer.MIN_VALUE), 0);

        ParsimonyPhylogeny six = new ParsimonyPhylogeny(6, 1);
        due("9: a pair among all trees", six.support(3), 15);
        due("9: its other side", six.support(60), 15);
        due("9: three and three", six.support(7), 9);
        due("9: taxon 0 among all trees", six.support(1), 105);
        due("9: taxon 5 among all trees", six.support(32), 105);
        column(six, 0, "AAACCC");
        due("9: only the best trees count", six.support(7), 9);
        due("9: 01 among the best", six.support(3), 3);
        due("9: 03 among the best", six.support(9), 0);
        ParsimonyPhylogeny three = new ParsimonyPhylogeny(3, 1);
        for (int mask = 0; mask < 16; mask++) {
            due("9: three taxa, mask " + mask, three.support(mask), (mask & 7) == 0 || (mask & 7) == 7 ? 0 : 1);
        }
    }

    private static void promise10SiteLeast() {
        ParsimonyPhylogeny x = of("AACC", "ACAC", "ACGT", "AAAA");
        x.weight(0, 9);
        x.weight(2, 4);
        due("10: site 0", x.siteLeast(0), 9);
        // No tree of least score has but one change here; another tree has.
        due("10: site 1 by itself", x.siteLeast(1), 1);
        due("10: site 2", x.siteLeast(2), 12);
        due("10: site 3", x.siteLeast(3), 0);
        x.weight(2, 0);
        due("10: weight 0", x.siteLeast(2), 0);
        int[] badSites = {-1, 4, 8, Integer.MIN_VALUE, Integer.MAX_VALUE};
        for (int bad : badSites) {
            due("10: site " + bad, x.siteLeast(bad), -2);
        }
    }

    private static void promise11Changes() {
        ParsimonyPhylogeny x = of("AACC", "ACAC", "ACGT", "AAAA");
        x.weight(0, 9);
        x.weight(2, 4);
        due("11: site 0, weight not counted", x.changes(0), 1);
        due("11: site 1 on the best tree", x.changes(1), 2);
        due("11: site 2", x.changes(2), 3);
        due("11: site 3", x.changes(3), 0);
        x.weight(2, 0);
        due("11: weight 0 still has changes", x.changes(2), 3);
        x.weight(0, 1);
        // Codes 1 and 2 are now both best: code 1 fits site 1, not site 0.
        due("11: smallest code, site 0", x.changes(0), 2);
        due("11: smallest code, site 1", x.changes(1), 1);
        int[] badSites = {-1, 4, 8, Integer.MIN_VALUE, Integer.MAX_VALUE};
        for (int bad : badSites) {
            due("11: site " + bad, x.changes(bad), -2);
        }
    }

    private static void askingChangesNothing() {
        ParsimonyPhylogeny x = of("AACCG", "ACACG");
        x.weight(1, 3);
        for (int round = 0; round < 3; round++) {
            due("asking: trees", x.trees(), 15);
            due("asking: score", x.score(14), 11);
            due("asking: least", x.least(), 9);
            due("asking: bestTree", x.bestTree(), 1);
            due("asking: within", x.within(0), 5);
            due("asking: support", x.support(10), 3);
            due("asking: siteLeast", x.siteLeast(0), 2);
            due("asking: changes", x.changes(0), 3);
            x.score(99);
            x.siteLeast(9);
            x.changes(-1);
        }
        due("asking: states kept", x.states(4, 0, T), G);
        due("asking: weight kept", x.weight(1, 1), 3);
    }

    public static void main(String[] args) {
        promise1NewObject();
        promise2States();
        promise3Weight();
        promise4Trees();
        promise5Score();
        promise6Least();
        promise7BestTree();
        promise8Within();
        promise9Support();
        promise10SiteLeast();
        promise11Changes();
        askingChangesNothing();
        System.out.println(checked + " answers checked, " + wrong + " wrong");
        if (wrong != 0) {
            System.exit(1);
        }
    }
}
