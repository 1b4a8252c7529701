// Ordinary calls, promise by promise, with answers worked out by hand from the
// document; BoundaryTest has the edges and the wrong inputs.
public final class PromisesTest {
    private static final int A = 1, C = 2, G = 4, T = 8;

    private static void due(String what, long got, long want) {
        Checks.due(what, got, want);
    }

    private static void promise1NewObject() {
        ParsimonyPhylogeny one = new ParsimonyPhylogeny(4, 2);
        ParsimonyPhylogeny two = new ParsimonyPhylogeny(4, 2);
        due("1: trees", one.trees(), 3);
        due("1: least", one.least(), 0);
        due("1: states", one.states(0, 0, A), 15);
        due("1: weight", one.weight(0, 7), 1);
        due("1: states of another object", two.states(0, 0, C), 15);
        due("1: weight of another object", two.weight(0, 2), 1);
    }

    private static void promise2States() {
        ParsimonyPhylogeny x = new ParsimonyPhylogeny(5, 3);
        for (int taxon = 0; taxon < 5; taxon++) {
            for (int site = 0; site < 3; site++) {
                due("2: at first " + taxon + " " + site, x.states(taxon, site, 3 * taxon + site + 1), 15);
            }
        }
        for (int taxon = 0; taxon < 5; taxon++) {
            for (int site = 0; site < 3; site++) {
                due("2: each its own " + taxon + " " + site, x.states(taxon, site, 1), 3 * taxon + site + 1);
            }
        }
    }

    private static void promise3Weight() {
        ParsimonyPhylogeny x = new ParsimonyPhylogeny(4, 8);
        for (int site = 0; site < 8; site++) {
            due("3: at first " + site, x.weight(site, site + 2), 1);
        }
        for (int site = 0; site < 8; site++) {
            due("3: each its own " + site, x.weight(site, 1), site + 2);
        }
    }

    private static void promise4Trees() {
        ParsimonyPhylogeny x = Checks.of("AACCG", "ACACG");
        due("4: trees", x.trees(), 15);
        x.weight(0, 5);
        due("4: trees, whatever the weights", x.trees(), 15);
    }

    private static void promise5Score() {
        ParsimonyPhylogeny three = Checks.of("ACG");
        due("5: three states, three taxa", three.score(0), 2);
        three.states(0, 0, C | G);
        due("5: taxon 0 may join either", three.score(0), 1);
        three.states(1, 0, 15);
        due("5: taxon 1 may be anything", three.score(0), 0);

        ParsimonyPhylogeny four = Checks.of("AACC", "ACAC");
        due("5: 01|23 and 02|13 on 03|12", four.score(0), 4);
        due("5: on 13|02", four.score(1), 3);
        due("5: on 23|01", four.score(2), 3);
        four.weight(0, 9);
        four.weight(1, 2);
        due("5: weighted on 03|12", four.score(0), 22);
        due("5: weighted on 13|02", four.score(1), 20);
        due("5: weighted on 23|01", four.score(2), 13);
        four.weight(0, 0);
        due("5: weight 0 leaves a site out", four.score(0), 4);
    }

    private static void promise6Least() {
        due("6: one state", Checks.of("AAAA").least(), 0);
        due("6: one odd taxon", Checks.of("ACAAAA").least(), 1);
        due("6: odd taxon 0", Checks.of("CAAAAA").least(), 1);
        due("6: two and two", Checks.of("AACC").least(), 1);
        due("6: two splits that clash", Checks.of("AACC", "ACAC").least(), 3);
        due("6: three taxa", Checks.of("ACG").least(), 2);
        ParsimonyPhylogeny x = Checks.of("AACC", "ACAC");
        x.weight(0, 2);
        x.weight(1, 3);
        due("6: the heavier site wins", x.least(), 7);
    }

    // Each pair of sites leaves one tree of five taxa that fits both, so the
    // best tree tells where the numbered edges lie.
    private static void promise7BestTree() {
        due("7: all equal", Checks.of("AAAAA").bestTree(), 0);
        due("7: 03|12", Checks.of("ACCA").bestTree(), 0);
        due("7: 13|02", Checks.of("ACAC").bestTree(), 1);
        due("7: 23|01", Checks.of("AACC").bestTree(), 2);
        due("7: first of two", Checks.of("AACC", "ACAC").bestTree(), 1);

        due("7: far half of the edge to 0", Checks.of("ACCAA", "ACCAC").bestTree(), 0);
        due("7: edge 1, taxon 3 on 0", Checks.of("ACCAC", "ACAAC").bestTree(), 3);
        due("7: edge 2, taxon 3 on 0", Checks.of("ACCAC", "AACAC").bestTree(), 6);
        due("7: near half of the edge to 0", Checks.of("ACCAA", "ACCCA").bestTree(), 9);
        due("7: edge to taxon 3", Checks.of("ACCAA", "AAACC").bestTree(), 12);
        due("7: edge 0, taxon 3 on 1", Checks.of("ACACA", "ACCCA").bestTree(), 1);
        due("7: edge 2, taxon 3 on 1", Checks.of("ACACA", "AACAC").bestTree(), 7);
        due("7: far half of the edge to 1", Checks.of("ACACC", "ACAAC").bestTree(), 4);
        due("7: near half of the edge to 1", Checks.of("ACACC", "ACACA").bestTree(), 10);
        due("7: edge to taxon 3 on 1", Checks.of("ACACC", "AAACC").bestTree(), 13);
        due("7: edge 0, taxon 3 on 2", Checks.of("AACCA", "ACCCA").bestTree(), 2);
        due("7: edge 1, taxon 3 on 2", Checks.of("AACCA", "ACAAC").bestTree(), 5);
        due("7: far half of the edge to 2", Checks.of("AACCC", "AACAC").bestTree(), 8);
        due("7: near half of the edge to 2", Checks.of("AACCC", "AACCA").bestTree(), 11);
        due("7: edge to taxon 3 on 2", Checks.of("AACCC", "AAACC").bestTree(), 14);
        // Six taxa: 3 on 0, 4 on 3, 5 on 5 (the near half of edge 3).
        due("7: six taxa, near halves", Checks.of("ACCCCA", "ACCCAA", "ACCAAA").bestTree(), 0 + 3 * 3 + 15 * 5);
        due("7: six taxa, far halves", Checks.of("ACCAAC", "ACCAAA", "ACCACC").bestTree(), 0);
        due("7: six taxa, last code", Checks.of("AACCCC", "AAACCC", "AAAACC").bestTree(), 2 + 3 * 4 + 15 * 6);
    }

    private static void promise8Within() {
        ParsimonyPhylogeny x = Checks.of("AACC", "ACAC");
        x.weight(0, 9);
        x.weight(1, 2);
        // The scores are 22, 20 and 13.
        due("8: within(0)", x.within(0), 1);
        due("8: within(6)", x.within(6), 1);
        due("8: within(7)", x.within(7), 2);
        due("8: within(8)", x.within(8), 2);
        due("8: within(9)", x.within(9), 3);
        due("8: within(10)", x.within(10), 3);
    }

    private static void promise9Support() {
        ParsimonyPhylogeny x = Checks.of("AACC");
        due("9: 01|23", x.support(3), 1);
        due("9: 23|01", x.support(12), 1);
        due("9: 02|13", x.support(5), 0);
        due("9: 13|02", x.support(10), 0);
        due("9: 03|12", x.support(9), 0);

        ParsimonyPhylogeny six = new ParsimonyPhylogeny(6, 1);
        due("9: a pair among all trees", six.support(3), 15);
        due("9: its other side", six.support(60), 15);
        due("9: three and three", six.support(7), 9);
        due("9: taxon 0 among all trees", six.support(1), 105);
        due("9: taxon 5 among all trees", six.support(32), 105);
        Checks.column(six, 0, "AAACCC");
        due("9: only the best trees count", six.support(7), 9);
        due("9: 01 among the best", six.support(3), 3);
        due("9: 03 among the best", six.support(9), 0);
    }

    private static void promise10SiteLeast() {
        ParsimonyPhylogeny x = Checks.of("AACC", "ACAC", "ACGT", "AAAA");
        x.weight(0, 9);
        x.weight(2, 4);
        due("10: site 0", x.siteLeast(0), 9);
        // No tree of least score has but one change here; another tree has.
        due("10: site 1 by itself", x.siteLeast(1), 1);
        due("10: site 2", x.siteLeast(2), 12);
        due("10: site 3", x.siteLeast(3), 0);
        x.weight(2, 0);
        due("10: weight 0", x.siteLeast(2), 0);
    }

    private static void promise11Changes() {
        ParsimonyPhylogeny x = Checks.of("AACC", "ACAC", "ACGT", "AAAA");
        x.weight(0, 9);
        x.weight(2, 4);
        due("11: site 0, weight not counted", x.changes(0), 1);
        due("11: site 1 on the best tree", x.changes(1), 2);
        due("11: site 2", x.changes(2), 3);
        due("11: site 3", x.changes(3), 0);
        x.weight(2, 0);
        due("11: weight 0 still has changes", x.changes(2), 3);
        x.weight(0, 1);
        // Codes 1 and 2 are now both best: code 1 fits site 1, not site 0.
        due("11: smallest code, site 0", x.changes(0), 2);
        due("11: smallest code, site 1", x.changes(1), 1);
    }

    private static void askingChangesNothing() {
        ParsimonyPhylogeny x = Checks.of("AACCG", "ACACG");
        x.weight(1, 3);
        for (int round = 0; round < 3; round++) {
            due("asking: trees", x.trees(), 15);
            due("asking: score", x.score(14), 11);
            due("asking: least", x.least(), 9);
            due("asking: bestTree", x.bestTree(), 1);
            due("asking: within", x.within(0), 5);
            due("asking: support", x.support(10), 3);
            due("asking: siteLeast", x.siteLeast(0), 2);
            due("asking: changes", x.changes(0), 3);
            x.score(99);
            x.siteLeast(9);
            x.changes(-1);
        }
        due("asking: states kept", x.states(4, 0, T), G);
        due("asking: weight kept", x.weight(1, 1), 3);
    }

    // README.md shows these calls and answers.
    private static void readmeExample() {
        ParsimonyPhylogeny x = new ParsimonyPhylogeny(4, 2);
        x.states(0, 0, 1);
        x.states(1, 0, 1);
        x.states(2, 0, 2);
        x.states(3, 0, 6);
        due("README: weight", x.weight(0, 5), 1);
        due("README: trees", x.trees(), 3);
        due("README: score", x.score(0), 10);
        due("README: least", x.least(), 5);
        due("README: bestTree", x.bestTree(), 2);
        due("README: within", x.within(4), 1);
        due("README: support", x.support(3), 1);
        due("README: siteLeast", x.siteLeast(0), 5);
        due("README: changes", x.changes(0), 1);
    }

    public static void main(String[] args) {
        promise1NewObject();
        promise2States();
        promise3Weight();
        promise4Trees();
        promise5Score();
        promise6Least();
        promise7BestTree();
        promise8Within();
        promise9Support();
        promise10SiteLeast();
        promise11Changes();
        askingChangesNothing();
        readmeExample();
        Checks.end();
    }
}
