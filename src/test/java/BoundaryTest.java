import java.util.List;
import java.util.function.Consumer;
import java.util.function.IntUnaryOperator;

// One test for each sentence of the document that names a boundary case; a
// wrong answer is printed behind the sentence that it breaks.
public final class BoundaryTest {
    private static final int LEAST = Integer.MIN_VALUE;
    private static final int MOST = Integer.MAX_VALUE;
    private static final int[] TREES = {0, 0, 0, 1, 3, 15, 105};

    // A call that throws breaks its own sentence and must not hide the others.
    private static void sentence(String words, Runnable test) {
        Checks.about(words);
        try {
            test.run();
        } catch (RuntimeException thrown) {
            Checks.threw(thrown);
        }
    }

    private static void due(String call, long got, long want) {
        Checks.due(call, got, want);
    }

    private static void dueForEach(String call, IntUnaryOperator method, int want, int... arguments) {
        for (int argument : arguments) {
            due(call + " with " + argument, method.applyAsInt(argument), want);
        }
    }

    // ---- What it is

    private static void whatItIs() {
        sentence("What it is, 512 calls: the last one asks", BoundaryTest::lastCallAsks);
        sentence("What it is, 512 calls: each changes something", BoundaryTest::everyCallChanges);
        sentence("What it is, 512 calls: all but the last are refused", BoundaryTest::manyRefusedCalls);
    }

    // Takes 56 calls. A tree needs 3 changes a site if 0 and 5 can be joined
    // apart from 1 and 4, which holds for a third of the trees, else 4.
    private static ParsimonyPhylogeny greatest() {
        String column = "ACGTCA";
        ParsimonyPhylogeny x = Checks.of(column, column, column, column, column, column, column, column);
        for (int site = 0; site < 8; site++) {
            x.weight(site, 9);
        }
        return x;
    }

    private static void askInTurn(ParsimonyPhylogeny x, int turn) {
        switch (turn % 8) {
            case 0 -> due("trees()", x.trees(), 105);
            case 1 -> due("score(101)", x.score(101), 8 * 9 * 4);
            case 2 -> due("least()", x.least(), 8 * 9 * 3);
            case 3 -> due("bestTree()", x.bestTree(), 3);
            case 4 -> due("within(0)", x.within(0), 35);
            case 5 -> due("support(18)", x.support(18), 15);
            case 6 -> due("siteLeast(7)", x.siteLeast(7), 27);
            default -> due("changes(7)", x.changes(7), 3);
        }
    }

    private static void lastCallAsks() {
        for (int kind = 0; kind < 8; kind++) {
            ParsimonyPhylogeny x = greatest();
            for (int call = 57; call <= 512; call++) {
                askInTurn(x, call + kind);
            }
        }
    }

    private static void everyCallChanges() {
        ParsimonyPhylogeny sets = new ParsimonyPhylogeny(6, 8);
        ParsimonyPhylogeny weights = new ParsimonyPhylogeny(6, 8);
        int set = 15;
        int weight = 1;
        for (int call = 1; call <= 512; call++) {
            due("states in call " + call, sets.states(5, 7, call % 15 + 1), set);
            set = call % 15 + 1;
            due("weight in call " + call, weights.weight(7, call % 10), weight);
            weight = call % 10;
        }
    }

    private static void manyRefusedCalls() {
        ParsimonyPhylogeny sets = new ParsimonyPhylogeny(3, 1);
        ParsimonyPhylogeny weights = new ParsimonyPhylogeny(3, 1);
        for (int call = 1; call <= 511; call++) {
            due("states in call " + call, sets.states(3, 0, 1), -1);
            due("weight in call " + call, weights.weight(0, 10), -4);
        }
        due("states in call 512", sets.states(2, 0, 1), 15);
        due("weight in call 512", weights.weight(0, 9), 1);
    }

    // ---- The public face

    private static void publicFace() {
        sentence("BAD_TAXON = -1", () -> due("BAD_TAXON", ParsimonyPhylogeny.BAD_TAXON, -1));
        sentence("BAD_SITE = -2", () -> due("BAD_SITE", ParsimonyPhylogeny.BAD_SITE, -2));
        sentence("BAD_STATES = -3", () -> due("BAD_STATES", ParsimonyPhylogeny.BAD_STATES, -3));
        sentence("BAD_WEIGHT = -4", () -> due("BAD_WEIGHT", ParsimonyPhylogeny.BAD_WEIGHT, -4));
        sentence("BAD_CODE = -5", () -> due("BAD_CODE", ParsimonyPhylogeny.BAD_CODE, -5));
    }

    // ---- Terms

    private static void terms() {
        sentence("Terms, taxa 0 to n - 1", BoundaryTest::firstAndLastTaxon);
        sentence("Terms, one to eight sites", BoundaryTest::firstAndLastSite);
        sentence("Terms, a mask of 1 to 15", BoundaryTest::leastAndGreatestSet);
        sentence("Terms, bit s for state s, 0 to 3", BoundaryTest::everyBitIsAState);
        sentence("Terms, a weight, 0 to 9", BoundaryTest::leastAndGreatestWeight);
        sentence("Terms, every inner node has three edges", BoundaryTest::numberOfEdges);
        sentence("Terms, the tree of taxa 0, 1, 2 alone", BoundaryTest::treeOfThree);
        sentence("Terms, edges 0, 1, 2 lead to taxa 0, 1, 2", BoundaryTest::firstThreeEdges);
        sentence("Terms, taxon t on edge 0 to 2t - 4", BoundaryTest::firstAndLastEdge);
        sentence("Terms, the farther half keeps e", BoundaryTest::fartherHalf);
        sentence("Terms, the nearer half gets 2t - 3", BoundaryTest::nearerHalf);
        sentence("Terms, the edge to taxon t gets 2t - 2", BoundaryTest::edgeToTaxon);
        sentence("Terms, after taxon t there are edges 0 to 2t - 2", BoundaryTest::edgesAfterTaxon);
        sentence("Terms, e3 + 3 * e4 + 15 * e5", BoundaryTest::partsOfCode);
        sentence("Terms, parts for missing taxa are left out", BoundaryTest::leftOutParts);
        sentence("Terms, codes from 0", BoundaryTest::codesFromZero);
        sentence("Terms, the score: a state from its set", BoundaryTest::smallAndFullSets);
        sentence("Terms, the score: as small as possible", BoundaryTest::fewestAndMostChanges);
        sentence("Terms, the score: times the weight", BoundaryTest::scoreWithEdgeWeights);
        sentence("Terms, the score: the sum over all sites", BoundaryTest::firstAndLastSiteCount);
        askingCalls();
    }

    private static void firstAndLastTaxon() {
        for (int n = 3; n <= 6; n++) {
            ParsimonyPhylogeny x = new ParsimonyPhylogeny(n, 1);
            due(n + " taxa: before the first", x.states(-1, 0, 1), -1);
            due(n + " taxa: the first", x.states(0, 0, 1), 15);
            due(n + " taxa: the last", x.states(n - 1, 0, 2), 15);
            due(n + " taxa: behind the last", x.states(n, 0, 1), -1);
            due(n + " taxa: both are looked at", x.least(), 1);
        }
    }

    private static void firstAndLastSite() {
        for (int m = 1; m <= 8; m++) {
            ParsimonyPhylogeny x = new ParsimonyPhylogeny(3, m);
            due(m + " sites: before the first", x.weight(-1, 2), -2);
            due(m + " sites: the first", x.weight(0, 1), 1);
            due(m + " sites: the last", x.weight(m - 1, 2), 1);
            due(m + " sites: behind the last", x.weight(m, 2), -2);
            Checks.column(x, m - 1, "AAC");
            due(m + " sites: the last is looked at", x.least(), 2);
        }
    }

    private static void leastAndGreatestSet() {
        ParsimonyPhylogeny x = new ParsimonyPhylogeny(3, 1);
        due("states 1", x.states(0, 0, 1), 15);
        due("states 15", x.states(0, 0, 15), 1);
        due("states 0", x.states(0, 0, 0), -3);
        due("states 16", x.states(0, 0, 16), -3);
        due("the old states", x.states(0, 0, 1), 15);
    }

    private static void everyBitIsAState() {
        for (int set = 1; set <= 15; set++) {
            for (int state = 0; state <= 3; state++) {
                ParsimonyPhylogeny x = new ParsimonyPhylogeny(3, 1);
                x.states(0, 0, set);
                x.states(1, 0, 1 << state);
                x.states(2, 0, 1 << state);
                boolean held = (set >> state & 1) == 1;
                due("set " + set + " beside state " + state, x.score(0), held ? 0 : 1);
            }
        }
    }

    private static void leastAndGreatestWeight() {
        ParsimonyPhylogeny x = new ParsimonyPhylogeny(3, 1);
        due("weight 0", x.weight(0, 0), 1);
        due("weight 9", x.weight(0, 9), 0);
        due("weight -1", x.weight(0, -1), -4);
        due("weight 10", x.weight(0, 10), -4);
        due("the old weight", x.weight(0, 1), 9);
    }

    // The edges of a tree are counted by both of their sides.
    private static void numberOfEdges() {
        sidesOf(Checks.of("ACG"), 3);
        sidesOf(Checks.of("AACC"), 4);
        sidesOf(Checks.of("AACCC", "AAACC"), 5);
        sidesOf(Checks.of("AACCCC", "AAACCC", "AAAACC"), 6);
        sidesOf(Checks.of("AACCCC", "CCAACC", "CCCCAA"), 6);
    }

    private static void sidesOf(ParsimonyPhylogeny x, int n) {
        int sides = 0;
        for (int mask = 0; mask < 1 << n; mask++) {
            sides += x.support(mask);
        }
        due("sides of the one best tree of " + n + " taxa", sides, 2 * (2 * n - 3));
    }

    private static void treeOfThree() {
        ParsimonyPhylogeny x = new ParsimonyPhylogeny(3, 1);
        due("trees()", x.trees(), 1);
        due("score(0)", x.score(0), 0);
        due("score(1)", x.score(1), -5);
        dueForEach("support", x::support, 1, 1, 2, 3, 4, 5, 6);
        Checks.column(x, 0, "ACG");
        due("score(0) of three states", x.score(0), 2);
    }

    private static void firstThreeEdges() {
        Checks.onlyTree("3 on the edge to 0", 0, "ACCA");
        Checks.onlyTree("3 on the edge to 1", 1, "ACAC");
        Checks.onlyTree("3 on the edge to 2", 2, "AACC");
    }

    private static void firstAndLastEdge() {
        Checks.onlyTree("3 on edge 0", 0, "ACCA");
        Checks.onlyTree("3 on edge 2", 2, "AACC");
        Checks.onlyTree("4 on edge 0", 2, "AACCA", "ACCCA");
        Checks.onlyTree("4 on edge 4", 2 + 3 * 4, "AACCC", "AAACC");
        Checks.onlyTree("5 on edge 0", 2 + 3 * 4, "AACCCA", "ACCCCA", "AAACCA");
        Checks.onlyTree("5 on edge 6", 2 + 3 * 4 + 15 * 6, "AACCCC", "AAACCC", "AAAACC");
    }

    private static void fartherHalf() {
        Checks.onlyTree("4 on the farther half of the edge to 0", 0, "ACCAA", "ACCAC");
        Checks.onlyTree("4 on the farther half of the edge to 1", 1 + 3 * 1, "ACACC", "ACAAC");
        Checks.onlyTree("4 on the farther half of the edge to 2", 2 + 3 * 2, "AACCC", "AACAC");
        Checks.onlyTree("5 on the farthest part of the edge to 0", 0, "ACCAAA", "ACCACC", "ACCAAC");
        Checks.onlyTree("5 on the farther half of an inner edge", 1 + 3 * 3 + 15 * 3, "ACACAA", "ACACAC", "ACACCC");
        Checks.onlyTree("5 on the farther half of the edge to 3", 1 + 3 * 4 + 15 * 4, "ACACCC", "AAACCC", "AAACAC");
    }

    private static void nearerHalf() {
        Checks.onlyTree("4 on the nearer half of the edge to 0", 3 * 3, "ACCAA", "ACCCA");
        Checks.onlyTree("4 on the nearer half of the edge to 1", 1 + 3 * 3, "ACACC", "ACACA");
        Checks.onlyTree("4 on the nearer half of the edge to 2", 2 + 3 * 3, "AACCC", "AACCA");
        Checks.onlyTree("5 on the nearest part of the edge to 0", 3 * 3 + 15 * 5, "ACCAAA", "ACCCAA", "ACCCCA");
        Checks.onlyTree("5 on the nearer half of an inner edge", 1 + 3 * 3 + 15 * 5, "ACACAA", "ACACCA", "ACACCC");
        Checks.onlyTree("5 on the nearer half of the edge to 3", 1 + 3 * 4 + 15 * 5, "ACACCC", "AAACCC", "AAACCA");
    }

    private static void edgeToTaxon() {
        Checks.onlyTree("4 on the edge to 3, 3 on 0", 3 * 4, "ACCAA", "AAACC");
        Checks.onlyTree("4 on the edge to 3, 3 on 1", 1 + 3 * 4, "ACACC", "AAACC");
        Checks.onlyTree("4 on the edge to 3, 3 on 2", 2 + 3 * 4, "AACCC", "AAACC");
        Checks.onlyTree("5 on the edge to 4, 4 on 0", 15 * 6, "ACCAAA", "ACCACC", "AAAACC");
        Checks.onlyTree("5 on the edge to 4, 4 on an inner edge", 1 + 3 * 3 + 15 * 6, "ACACAA", "ACACCC", "AAAACC");
        Checks.onlyTree("5 on the edge to 4, 4 on 3", 1 + 3 * 4 + 15 * 6, "ACACCC", "AAACCC", "AAAACC");
    }

    // Taxon t + 1 can be added on each of them, and on no other.
    private static void edgesAfterTaxon() {
        for (int t = 2; t <= 4; t++) {
            int before = new ParsimonyPhylogeny(t + 1, 1).trees();
            ParsimonyPhylogeny x = new ParsimonyPhylogeny(t + 2, 1);
            due("last edge after taxon " + t, x.score(before * (2 * t - 2)), 0);
            due("all trees after taxon " + t, x.trees(), before * (2 * t - 1));
            due("an edge too many after taxon " + t, x.score(before * (2 * t - 1)), -5);
        }
    }

    private static void partsOfCode() {
        Checks.onlyTree("e3 = 1 alone", 1, "ACACAA", "ACCCAA", "ACCCAC");
        Checks.onlyTree("e4 = 1 alone", 3, "ACAACA", "ACCACA", "ACCACC");
        Checks.onlyTree("e5 = 1 alone", 15, "ACAAAC", "ACCAAC", "ACCACC");
        Checks.onlyTree("the greatest code", 104, "AACCCC", "AAACCC", "AAAACC");
    }

    private static void leftOutParts() {
        for (int n = 3; n <= 6; n++) {
            ParsimonyPhylogeny x = new ParsimonyPhylogeny(n, 1);
            due(n + " taxa: trees()", x.trees(), TREES[n]);
            due(n + " taxa: the last code", x.score(TREES[n] - 1), 0);
            due(n + " taxa: behind the last code", x.score(TREES[n]), -5);
        }
        Checks.onlyTree("five taxa, the last code", 14, "AACCC", "AAACC");
        Checks.onlyTree("four taxa, the last code", 2, "AACC");
    }

    private static void codesFromZero() {
        for (int n = 3; n <= 6; n++) {
            ParsimonyPhylogeny x = new ParsimonyPhylogeny(n, 1);
            due(n + " taxa: score(0)", x.score(0), 0);
            due(n + " taxa: score(-1)", x.score(-1), -5);
        }
    }

    private static void smallAndFullSets() {
        ParsimonyPhylogeny x = Checks.of("ACGT");
        due("one state each", x.score(0), 3);
        x.states(0, 0, 15);
        due("taxon 0 may have any", x.score(0), 2);
        x.states(3, 0, 15);
        due("taxon 3 too", x.score(0), 1);
        x.states(2, 0, 15);
        due("all but one may have any", x.score(0), 0);
        x.states(1, 0, 15);
        due("all may have any", x.score(0), 0);
        x.states(0, 0, 3);
        x.states(1, 0, 6);
        x.states(2, 0, 12);
        x.states(3, 0, 9);
        due("each shares a state with the next", x.score(0), 1);
    }

    private static void fewestAndMostChanges() {
        due("three taxa alike", Checks.of("TTT").score(0), 0);
        due("six taxa alike", Checks.of("TTTTTT").score(104), 0);
        due("three taxa apart", Checks.of("TGC").score(0), 2);
        due("four taxa apart", Checks.of("ACGT").score(2), 3);
        due("five taxa, as far apart as can be", Checks.of("ACGTA").score(2 + 3 * 3), 3);
        due("six taxa, as far apart as can be", Checks.of("ACGTCA").score(2 + 3 * 3 + 15 * 6), 4);
        due("the greatest score of all", greatest().score(2 + 3 * 3 + 15 * 6), 288);
    }

    private static void scoreWithEdgeWeights() {
        ParsimonyPhylogeny x = Checks.of("ACGT");
        x.weight(0, 0);
        due("weight 0", x.score(0), 0);
        x.weight(0, 1);
        due("weight 1", x.score(0), 3);
        x.weight(0, 9);
        due("weight 9", x.score(0), 27);
    }

    private static void firstAndLastSiteCount() {
        ParsimonyPhylogeny x = new ParsimonyPhylogeny(3, 8);
        int sum = 0;
        for (int site = 0; site < 8; site++) {
            Checks.column(x, site, "ACG");
            x.weight(site, site + 1);
            sum += 2 * (site + 1);
            due("sites 0 to " + site, x.score(0), sum);
        }
        due("one site alone", Checks.of("ACG").score(0), 2);
    }

    private static void askingCalls() {
        changesNothing("trees", x -> x.trees());
        changesNothing("score", x -> {
            x.score(0);
            x.score(14);
            x.score(15);
            x.score(-1);
        });
        changesNothing("least", x -> x.least());
        changesNothing("bestTree", x -> x.bestTree());
        changesNothing("within", x -> {
            x.within(0);
            x.within(-1);
            x.within(MOST);
        });
        changesNothing("support", x -> {
            x.support(0);
            x.support(3);
            x.support(31);
            x.support(-1);
        });
        changesNothing("siteLeast", x -> {
            x.siteLeast(0);
            x.siteLeast(2);
            x.siteLeast(3);
            x.siteLeast(-1);
        });
        changesNothing("changes", x -> {
            x.changes(0);
            x.changes(2);
            x.changes(3);
            x.changes(-1);
        });
    }

    private static ParsimonyPhylogeny fiveByThree() {
        ParsimonyPhylogeny x = Checks.of("AACCG", "ACACG", "TT*GG");
        x.weight(1, 3);
        x.weight(2, 0);
        return x;
    }

    private static void changesNothing(String method, Consumer<ParsimonyPhylogeny> calls) {
        sentence("Terms, " + method + " changes nothing that any call answers", () -> unchangedBy(method, calls));
    }

    private static void unchangedBy(String what, Consumer<ParsimonyPhylogeny> calls) {
        ParsimonyPhylogeny x = fiveByThree();
        calls.accept(x);
        List<Integer> got = Checks.told(x, 5, 3);
        List<Integer> want = Checks.told(fiveByThree(), 5, 3);
        for (int i = 0; i < want.size(); i++) {
            due("answer " + i + " after " + what, got.get(i), want.get(i));
        }
    }

    // ---- Promise 1

    private static void promise1() {
        sentence("1, taxa below the least become 3", () -> taxaBecome(3, LEAST, -1, 0, 1, 2));
        sentence("1, taxa in 3 to 6 stay", () -> {
            taxaBecome(3, 3);
            taxaBecome(4, 4);
            taxaBecome(5, 5);
            taxaBecome(6, 6);
        });
        sentence("1, taxa above the greatest become 6", () -> taxaBecome(6, 7, 8, 100, MOST));
        sentence("1, sites below the least become 1", () -> sitesBecome(1, LEAST, -1, 0));
        sentence("1, sites in 1 to 8 stay", () -> {
            for (int sites = 1; sites <= 8; sites++) {
                sitesBecome(sites, sites);
            }
        });
        sentence("1, sites above the greatest become 8", () -> sitesBecome(8, 9, 10, 100, MOST));
        sentence("1, both out of range at once", BoundaryTest::bothClamped);
        sentence("1, every taxon has the set 15 at every site", BoundaryTest::newSets);
        sentence("1, every site has weight 1", BoundaryTest::newWeights);
    }

    private static void taxaBecome(int n, int... given) {
        for (int taxa : given) {
            ParsimonyPhylogeny x = new ParsimonyPhylogeny(taxa, 2);
            due("new(" + taxa + ", 2): trees()", x.trees(), TREES[n]);
            due("new(" + taxa + ", 2): taxon n - 1", x.states(n - 1, 1, 15), 15);
            due("new(" + taxa + ", 2): taxon n", x.states(n, 1, 15), -1);
        }
    }

    private static void sitesBecome(int m, int... given) {
        for (int sites : given) {
            ParsimonyPhylogeny x = new ParsimonyPhylogeny(4, sites);
            due("new(4, " + sites + "): last site", x.weight(m - 1, 1), 1);
            due("new(4, " + sites + "): a site more", x.weight(m, 1), -2);
            due("new(4, " + sites + "): states at the last site", x.states(0, m - 1, 1), 15);
            due("new(4, " + sites + "): states a site more", x.states(0, m, 1), -2);
            due("new(4, " + sites + "): siteLeast of the last site", x.siteLeast(m - 1), 0);
            due("new(4, " + sites + "): siteLeast a site more", x.siteLeast(m), -2);
        }
    }

    private static void bothClamped() {
        int[] given = {LEAST, 0, 9, MOST};
        for (int taxa : given) {
            for (int sites : given) {
                int n = taxa < 3 ? 3 : 6;
                int m = sites < 1 ? 1 : 8;
                ParsimonyPhylogeny x = new ParsimonyPhylogeny(taxa, sites);
                String made = "new(" + taxa + ", " + sites + "): ";
                due(made + "the last cell", x.states(n - 1, m - 1, 1), 15);
                due(made + "a taxon more", x.states(n, m - 1, 1), -1);
                due(made + "a site more", x.states(n - 1, m, 1), -2);
            }
        }
    }

    private static void newSets() {
        for (int n = 3; n <= 6; n++) {
            for (int m = 1; m <= 8; m++) {
                ParsimonyPhylogeny x = new ParsimonyPhylogeny(n, m);
                due("least() of a new object", x.least(), 0);
                for (int cell = 0; cell < n * m; cell++) {
                    due("states of cell " + cell + " of (" + n + ", " + m + ")", x.states(cell / m, cell % m, 1), 15);
                }
            }
        }
    }

    private static void newWeights() {
        for (int m = 1; m <= 8; m++) {
            ParsimonyPhylogeny x = new ParsimonyPhylogeny(3, m);
            for (int site = 0; site < m; site++) {
                Checks.column(x, site, "AAC");
                due("siteLeast(" + site + ") of " + m, x.siteLeast(site), 1);
                due("weight of site " + site + " of " + m, x.weight(site, 9), 1);
            }
        }
    }

    // ---- Promise 2

    private static void promise2() {
        sentence("2, no such taxon: BAD_TAXON", () -> {
            for (int n = 3; n <= 6; n++) {
                ParsimonyPhylogeny x = new ParsimonyPhylogeny(n, 8);
                dueForEach("states of taxon", taxon -> x.states(taxon, 0, 1), -1, -1, n, 6, 7, LEAST, MOST, 1 << 29);
            }
        });
        sentence("2, no such site: BAD_SITE", () -> {
            for (int m = 1; m <= 8; m++) {
                ParsimonyPhylogeny x = new ParsimonyPhylogeny(6, m);
                dueForEach("states at site", site -> x.states(0, site, 1), -2, -1, m, 8, 9, LEAST, MOST);
                dueForEach("states of 5 at site", site -> x.states(5, site, 1), -2, -1, -8, m, 8, LEAST, MOST);
            }
        });
        sentence("2, states not in 1 to 15: BAD_STATES", () -> {
            ParsimonyPhylogeny x = new ParsimonyPhylogeny(3, 1);
            dueForEach("states", set -> x.states(2, 0, set), -3, 0, -1, 16, 17, 31, 257, LEAST, LEAST + 1, MOST);
        });
        sentence("2, the first fault in the document's order is told", BoundaryTest::severalFaultsOfStates);
        sentence("2, no such taxon: nothing changes then",
                () -> unchangedBy("refused states", x -> refuse(x, new int[] {-1, 5, 6, LEAST, MOST}, 0, 1)));
        sentence("2, no such site: nothing changes then", () -> unchangedBy("refused states", x -> {
            for (int site : new int[] {-1, 3, 8, LEAST, MOST}) {
                refuse(x, new int[] {0, 1, 4}, site, 8);
            }
        }));
        sentence("2, states not in 1 to 15: nothing changes then", () -> unchangedBy("refused states", x -> {
            for (int set : new int[] {0, -1, 16, 17, LEAST, MOST}) {
                refuse(x, new int[] {0, 1, 4}, 2, set);
            }
        }));
        sentence("2, else answers the old states", BoundaryTest::oldStates);
    }

    private static void refuse(ParsimonyPhylogeny x, int[] taxa, int site, int set) {
        for (int taxon : taxa) {
            due("states(" + taxon + ", " + site + ", " + set + ") is refused",
                    x.states(taxon, site, set) < 0 ? 1 : 0, 1);
        }
    }

    private static void severalFaultsOfStates() {
        ParsimonyPhylogeny x = new ParsimonyPhylogeny(4, 2);
        due("taxon and site", x.states(4, 2, 1), -1);
        due("taxon and states", x.states(-1, 0, 0), -1);
        due("site and states", x.states(0, 2, 16), -2);
        due("all three", x.states(4, -1, 16), -1);
    }

    private static void oldStates() {
        ParsimonyPhylogeny x = new ParsimonyPhylogeny(6, 8);
        int old = 15;
        for (int set = 1; set <= 15; set++) {
            due("states(5, 7, " + set + ")", x.states(5, 7, set), old);
            due("the same again", x.states(5, 7, set), set);
            due("refused", x.states(5, 7, 16), -3);
            old = set;
        }
        due("after refused calls", x.states(5, 7, 1), 15);
        due("the taxon before", x.states(4, 7, 1), 15);
        due("the site before", x.states(5, 6, 1), 15);
        due("the first of all", x.states(0, 0, 1), 15);
    }

    // ---- Promise 3

    private static void promise3() {
        sentence("3, no such site: BAD_SITE", () -> {
            for (int m = 1; m <= 8; m++) {
                ParsimonyPhylogeny x = new ParsimonyPhylogeny(3, m);
                dueForEach("weight of site", site -> x.weight(site, 2), -2, -1, m, 8, 9, LEAST, MOST);
            }
        });
        sentence("3, weight not in 0 to 9: BAD_WEIGHT", () -> {
            ParsimonyPhylogeny x = new ParsimonyPhylogeny(3, 8);
            dueForEach("weight", weight -> x.weight(7, weight), -4, -1, 10, 11, 256, LEAST, MOST);
        });
        sentence("3, the first fault in the document's order is told", () -> {
            ParsimonyPhylogeny x = new ParsimonyPhylogeny(3, 2);
            due("site and weight too great", x.weight(2, 10), -2);
            due("site and weight too small", x.weight(-1, -1), -2);
        });
        sentence("3, no such site: nothing changes then", () -> unchangedBy("refused weight", x ->
                dueForEach("weight of site", site -> x.weight(site, 5), -2, -1, 3, 8, LEAST, MOST)));
        sentence("3, weight not in 0 to 9: nothing changes then", () -> unchangedBy("refused weight", x ->
                dueForEach("weight", weight -> x.weight(1, weight), -4, -1, 10, LEAST, MOST)));
        sentence("3, else answers the old weight", BoundaryTest::oldWeights);
    }

    private static void oldWeights() {
        ParsimonyPhylogeny x = new ParsimonyPhylogeny(6, 8);
        int old = 1;
        for (int weight = 0; weight <= 9; weight++) {
            due("weight(7, " + weight + ")", x.weight(7, weight), old);
            due("the same again", x.weight(7, weight), weight);
            due("refused", x.weight(7, 10), -4);
            old = weight;
        }
        due("after refused calls", x.weight(7, 0), 9);
        due("the site before", x.weight(6, 0), 1);
        due("weight 0 is an old weight", x.weight(6, 1), 0);
    }

    // ---- Promise 4

    private static void promise4() {
        for (int n = 3; n <= 6; n++) {
            int taxa = n;
            sentence("4, " + TREES[n] + " trees for " + n + " taxa", () -> {
                due("trees()", new ParsimonyPhylogeny(taxa, 1).trees(), TREES[taxa]);
                due("trees() with eight sites", new ParsimonyPhylogeny(taxa, 8).trees(), TREES[taxa]);
            });
        }
    }

    // ---- Promise 5

    private static void promise5() {
        for (int n = 3; n <= 6; n++) {
            int taxa = n;
            sentence("5, no such code of " + n + " taxa: BAD_CODE", () -> {
                ParsimonyPhylogeny x = new ParsimonyPhylogeny(taxa, 1);
                int count = TREES[taxa];
                dueForEach("score", x::score, -5, -1, count, count + 1, 105, 106, LEAST, MOST);
            });
            sentence("5, the first and the last code of " + n + " taxa", () -> {
                ParsimonyPhylogeny x = new ParsimonyPhylogeny(taxa, 1);
                Checks.column(x, 0, "AAC");
                due("score(0)", x.score(0), 1);
                due("the last score", x.score(TREES[taxa] - 1), 1);
            });
        }
    }

    // ---- Promise 6

    private static void promise6() {
        sentence("6, the first tree alone has the least score", () -> {
            due("four taxa", Checks.of("ACCA").least(), 1);
            due("six taxa", Checks.of("ACCAAA", "ACCACC", "ACCAAC").least(), 3);
        });
        sentence("6, the last tree alone has the least score", () -> {
            due("four taxa", Checks.of("AACC").least(), 1);
            due("six taxa", Checks.of("AACCCC", "AAACCC", "AAAACC").least(), 3);
        });
        sentence("6, the only tree has the least score", () -> due("three taxa", Checks.of("ACG").least(), 2));
        sentence("6, the least score can be 0", () -> {
            due("all sets full", new ParsimonyPhylogeny(6, 8).least(), 0);
            ParsimonyPhylogeny x = Checks.of("ACGT");
            x.weight(0, 0);
            due("all weights 0", x.least(), 0);
        });
        sentence("6, the greatest weights", () -> due("least()", greatest().least(), 8 * 9 * 3));
    }

    // ---- Promise 7

    private static void promise7() {
        sentence("7, all trees have the least score", () -> {
            for (int n = 3; n <= 6; n++) {
                due("bestTree() of " + n, new ParsimonyPhylogeny(n, 1).bestTree(), 0);
            }
        });
        sentence("7, the smallest of several codes", () -> {
            due("of 1 and 2", Checks.of("AACC", "ACAC").bestTree(), 1);
            due("of 0 and 2", Checks.of("ACCA", "AACC").bestTree(), 0);
            due("of 35", greatest().bestTree(), 3);
        });
        sentence("7, the first code alone is best", () ->
                due("bestTree()", Checks.of("ACCAAA", "ACCACC", "ACCAAC").bestTree(), 0));
        sentence("7, the last code alone is best", () -> {
            due("of four taxa", Checks.of("AACC").bestTree(), 2);
            due("of five taxa", Checks.of("AACCC", "AAACC").bestTree(), 14);
            due("of six taxa", Checks.of("AACCCC", "AAACCC", "AAAACC").bestTree(), 104);
        });
    }

    // ---- Promise 8

    // The scores are 22, 20 and 13.
    private static ParsimonyPhylogeny threeScores() {
        ParsimonyPhylogeny x = Checks.of("AACC", "ACAC");
        x.weight(0, 9);
        x.weight(1, 2);
        return x;
    }

    private static void promise8() {
        sentence("8, at most the least score and 'extra'", () -> {
            ParsimonyPhylogeny x = threeScores();
            due("within(6)", x.within(6), 1);
            due("within(7)", x.within(7), 2);
            due("within(8)", x.within(8), 2);
            due("within(9)", x.within(9), 3);
            due("within(10)", x.within(10), 3);
            due("greatest scores, one short", greatest().within(71), 35);
            due("greatest scores", greatest().within(72), 105);
        });
        sentence("8, extra 0", () -> {
            due("one best tree", threeScores().within(0), 1);
            due("two best trees", Checks.of("AACC", "ACAC").within(0), 2);
            due("the only tree", Checks.of("ACG").within(0), 1);
            due("all trees", new ParsimonyPhylogeny(6, 8).within(0), 105);
        });
        sentence("8, the sum may not wrap around", () -> {
            dueForEach("within", threeScores()::within, 3, MOST, MOST - 12, MOST - 13, MOST - 14);
            dueForEach("within", greatest()::within, 105, MOST, MOST - 215, MOST - 216, MOST - 288);
            due("least score 0", new ParsimonyPhylogeny(6, 8).within(MOST), 105);
        });
        sentence("8, 0 if extra is negative", () -> {
            dueForEach("within", threeScores()::within, 0, -1, -2, -13, -100, LEAST, LEAST + 1);
            dueForEach("within", new ParsimonyPhylogeny(6, 8)::within, 0, -1, LEAST);
        });
    }

    // ---- Promise 9

    private static void promise9() {
        sentence("9, the trees with the least score", () -> {
            due("one best tree has it", Checks.of("AACC").support(3), 1);
            due("no best tree has it", Checks.of("AACC").support(5), 0);
            due("one of two has it", Checks.of("AACC", "ACAC").support(3), 1);
            due("all 105 are best", new ParsimonyPhylogeny(6, 1).support(3), 15);
            due("35 are best", greatest().support(1), 35);
        });
        sentence("9, exactly the taxa of the mask", () -> {
            ParsimonyPhylogeny x = Checks.of("AACCCC", "AAACCC", "AAAACC");
            dueForEach("an edge", x::support, 1, 3, 7, 15);
            dueForEach("no edge", x::support, 0, 5, 6, 11, 19, 12, 24);
        });
        sentence("9, the two sides of an edge", () -> {
            ParsimonyPhylogeny x = Checks.of("AACCCC", "AAACCC", "AAAACC");
            for (int mask = 0; mask < 64; mask++) {
                due("support(" + mask + ") and the other side", x.support(mask), x.support(63 ^ mask));
            }
            dueForEach("sides without taxon 0", x::support, 1, 60, 56, 48);
        });
        sentence("9, one taxon alone on a side", () -> {
            ParsimonyPhylogeny x = greatest();
            dueForEach("one taxon", x::support, 35, 1, 2, 4, 8, 16, 32);
            dueForEach("all but one", x::support, 35, 62, 61, 59, 55, 47, 31);
        });
        sentence("9, bits from n on are not looked at", BoundaryTest::higherBits);
        sentence("9, 0 if the side of the mask is empty", () -> {
            for (int n = 3; n <= 6; n++) {
                ParsimonyPhylogeny x = new ParsimonyPhylogeny(n, 1);
                dueForEach(n + " taxa: support", x::support, 0, 0, 1 << n, 3 << n, LEAST, -1 << n);
            }
        });
        sentence("9, 0 if the other side is empty", () -> {
            for (int n = 3; n <= 6; n++) {
                ParsimonyPhylogeny x = new ParsimonyPhylogeny(n, 1);
                int everyone = (1 << n) - 1;
                dueForEach(n + " taxa: support", x::support, 0, everyone, everyone | 1 << n, -1, MOST);
            }
        });
    }

    private static void higherBits() {
        for (int n = 3; n <= 6; n++) {
            ParsimonyPhylogeny x = new ParsimonyPhylogeny(n, 1);
            Checks.column(x, 0, "ACC");
            for (int mask = 0; mask < 1 << n; mask++) {
                int plain = x.support(mask);
                due("support(" + mask + ") with bit n = " + n, x.support(mask | 1 << n), plain);
                due("support(" + mask + ") with bit 31, n = " + n, x.support(mask | LEAST), plain);
                due("support(" + mask + ") with all higher bits, n = " + n, x.support(mask | -1 << n), plain);
            }
        }
        due("01|23 and bit 4", Checks.of("AACC").support(3 | 16), 1);
        due("01|23 and bit 31", Checks.of("AACC").support(3 | LEAST), 1);
        due("23|01, negative", Checks.of("AACC").support(-4), 1);
    }

    // ---- Promise 10

    private static void promise10() {
        sentence("10, the least score that any tree has at this site", () -> {
            ParsimonyPhylogeny x = threeScores();
            due("a site that the best tree fits", x.siteLeast(0), 9);
            due("a site that only another tree fits", x.siteLeast(1), 2);
            due("the first tree alone fits", Checks.of("ACCA").siteLeast(0), 1);
            due("the last tree alone fits", Checks.of("AACC").siteLeast(0), 1);
            due("the only tree", Checks.of("ACG").siteLeast(0), 2);
            due("no change at all", new ParsimonyPhylogeny(6, 8).siteLeast(7), 0);
        });
        sentence("10, a score has the weight in it", () -> {
            ParsimonyPhylogeny x = Checks.of("ACGT", "AACC");
            x.weight(0, 0);
            due("weight 0", x.siteLeast(0), 0);
            x.weight(0, 9);
            due("weight 9", x.siteLeast(0), 27);
            due("the other site's weight is 1", x.siteLeast(1), 1);
        });
        sentence("10, no such site: BAD_SITE", () -> {
            for (int m = 1; m <= 8; m++) {
                ParsimonyPhylogeny x = new ParsimonyPhylogeny(6, m);
                dueForEach("siteLeast", x::siteLeast, -2, -1, m, 8, 9, LEAST, MOST);
                due("the last site", x.siteLeast(m - 1), 0);
            }
        });
    }

    // ---- Promise 11

    private static void promise11() {
        sentence("11, the one with the smallest code", () -> {
            ParsimonyPhylogeny x = Checks.of("AACC", "ACAC");
            due("code 1 of 1 and 2, site 0", x.changes(0), 2);
            due("code 1 of 1 and 2, site 1", x.changes(1), 1);
            ParsimonyPhylogeny y = Checks.of("ACCA", "AACC");
            due("code 0 of 0 and 2, site 0", y.changes(0), 1);
            due("code 0 of 0 and 2, site 1", y.changes(1), 2);
            due("the only tree", Checks.of("ACG").changes(0), 2);
        });
        sentence("11, the trees with the least score", () -> {
            ParsimonyPhylogeny x = threeScores();
            due("a site that the best tree fits", x.changes(0), 1);
            due("a site that only another tree fits", x.changes(1), 2);
            due("the last code alone", Checks.of("AACCCC", "AAACCC", "AAAACC").changes(2), 1);
        });
        sentence("11, weight not counted", () -> {
            ParsimonyPhylogeny x = Checks.of("ACGT", "AACC");
            x.weight(0, 9);
            due("weight 9", x.changes(0), 3);
            x.weight(0, 0);
            due("weight 0", x.changes(0), 3);
            x.weight(1, 0);
            due("all weights 0, so the tree is code 0", x.changes(1), 2);
        });
        sentence("11, no such site: BAD_SITE", () -> {
            for (int m = 1; m <= 8; m++) {
                ParsimonyPhylogeny x = new ParsimonyPhylogeny(6, m);
                dueForEach("changes", x::changes, -2, -1, m, 8, 9, LEAST, MOST);
                due("the last site", x.changes(m - 1), 0);
            }
        });
    }

    public static void main(String[] args) {
        whatItIs();
        publicFace();
        terms();
        promise1();
        promise2();
        promise3();
        promise4();
        promise5();
        promise6();
        promise7();
        promise8();
        promise9();
        promise10();
        promise11();
        Checks.end();
    }
}
