import java.util.ArrayList;
import java.util.List;

// Long runs of calls, each answer compared with a slow reference that follows
// the document's words: the tree is a plain graph, nearness to taxon 0 is
// found by walking, and every choice of inner states is tried.
public final class ReferenceTest {
    private static final int CALLS = 512;
    private static long seed = 20240229L;

    // A fixed sequence, so that every run of this test is the same.
    private static int pick(int bound) {
        seed = seed * 6364136223846793005L + 1442695040888963407L;
        return (int) ((seed >>> 33) % bound);
    }

    private static int pickBetween(int low, int high) {
        return low + pick(high - low + 1);
    }

    // Nodes 0 to n - 1 are the taxa, the inner nodes are n and up.
    private static final class Graph {
        final int n;
        final List<int[]> edges = new ArrayList<>();
        int nodes;

        Graph(int n, int code) {
            this.n = n;
            int middle = n;
            nodes = n + 1;
            for (int taxon = 0; taxon < 3; taxon++) {
                edges.add(new int[] {taxon, middle});
            }
            int e3 = code % 3;
            int e4 = code / 3 % 5;
            int e5 = code / 15;
            int[] chosen = {0, 0, 0, e3, e4, e5};
            for (int t = 3; t < n; t++) {
                add(t, chosen[t]);
            }
        }

        private void add(int t, int e) {
            int[] old = edges.get(e);
            boolean firstIsNearer = reachable(0, old).contains(old[0]);
            int near = firstIsNearer ? old[0] : old[1];
            int far = firstIsNearer ? old[1] : old[0];
            int inner = nodes++;
            edges.set(e, new int[] {inner, far});
            edges.add(new int[] {near, inner});
            edges.add(new int[] {inner, t});
            if (edges.size() != 2 * t - 1) {
                throw new IllegalStateException("edge numbers");
            }
        }

        List<Integer> reachable(int start, int[] cut) {
            List<Integer> seen = new ArrayList<>();
            seen.add(start);
            for (int i = 0; i < seen.size(); i++) {
                for (int[] edge : edges) {
                    if (edge == cut) {
                        continue;
                    }
                    int here = seen.get(i);
                    int there = edge[0] == here ? edge[1] : edge[1] == here ? edge[0] : -1;
                    if (there >= 0 && !seen.contains(there)) {
                        seen.add(there);
                    }
                }
            }
            return seen;
        }

        int side(int[] edge) {
            int side = 0;
            for (int node : reachable(edge[0], edge)) {
                side |= node < n ? 1 << node : 0;
            }
            return side;
        }

        boolean separates(int mask) {
            for (int[] edge : edges) {
                int side = side(edge);
                if (side == mask || side == ((1 << n) - 1 ^ mask)) {
                    return true;
                }
            }
            return false;
        }

        // The two sides of each edge between inner nodes have a state each at
        // a site of their own, so that no other tree is as good.
        ParsimonyPhylogeny onlyBest() {
            ParsimonyPhylogeny x = new ParsimonyPhylogeny(n, Math.max(1, n - 3));
            int site = 0;
            for (int[] edge : edges) {
                if (edge[0] >= n && edge[1] >= n) {
                    for (int taxon = 0; taxon < n; taxon++) {
                        x.states(taxon, site, (side(edge) >> taxon & 1) == 1 ? 1 : 2);
                    }
                    site++;
                }
            }
            return x;
        }

        int changes(int[] sets) {
            int inner = n - 2;
            int fewest = Integer.MAX_VALUE;
            for (int choice = 0; choice < 1 << 2 * inner; choice++) {
                int count = 0;
                for (int[] edge : edges) {
                    // A taxon takes the state of the inner node beside it if it may.
                    int one = possible(edge[0], choice, sets);
                    int other = possible(edge[1], choice, sets);
                    count += (one & other) == 0 ? 1 : 0;
                }
                fewest = Math.min(fewest, count);
            }
            return fewest;
        }

        private int possible(int node, int choice, int[] sets) {
            return node < n ? sets[node] : 1 << (choice >> 2 * (node - n) & 3);
        }
    }

    private static final class Reference {
        final int n;
        final int m;
        final int[][] sets;
        final int[] weights;
        final List<Graph> graphs = new ArrayList<>();
        final int[][] changes;

        Reference(int n, int m) {
            this.n = n;
            this.m = m;
            sets = new int[m][n];
            weights = new int[m];
            int[] counts = {1, 3, 15, 105};
            for (int code = 0; code < counts[n - 3]; code++) {
                graphs.add(new Graph(n, code));
            }
            changes = new int[m][graphs.size()];
            for (int site = 0; site < m; site++) {
                java.util.Arrays.fill(sets[site], 15);
                weights[site] = 1;
            }
        }

        int states(int taxon, int site, int states) {
            if (taxon < 0 || taxon >= n) {
                return -1;
            }
            if (site < 0 || site >= m) {
                return -2;
            }
            if (states < 1 || states > 15) {
                return -3;
            }
            int old = sets[site][taxon];
            sets[site][taxon] = states;
            for (int code = 0; code < graphs.size(); code++) {
                changes[site][code] = graphs.get(code).changes(sets[site]);
            }
            return old;
        }

        int weight(int site, int weight) {
            if (site < 0 || site >= m) {
                return -2;
            }
            if (weight < 0 || weight > 9) {
                return -4;
            }
            int old = weights[site];
            weights[site] = weight;
            return old;
        }

        int score(int code) {
            if (code < 0 || code >= graphs.size()) {
                return -5;
            }
            int sum = 0;
            for (int site = 0; site < m; site++) {
                sum += changes[site][code] * weights[site];
            }
            return sum;
        }

        List<Integer> upTo(long extra) {
            int lowest = Integer.MAX_VALUE;
            for (int code = 0; code < graphs.size(); code++) {
                lowest = Math.min(lowest, score(code));
            }
            List<Integer> codes = new ArrayList<>();
            for (int code = 0; code < graphs.size(); code++) {
                if (score(code) <= lowest + extra) {
                    codes.add(code);
                }
            }
            return codes;
        }

        int support(int mask) {
            int all = (1 << n) - 1;
            int side = mask & all;
            int count = 0;
            for (int code : upTo(0)) {
                count += side != 0 && side != all && graphs.get(code).separates(side) ? 1 : 0;
            }
            return count;
        }

        int siteLeast(int site) {
            if (site < 0 || site >= m) {
                return -2;
            }
            int lowest = Integer.MAX_VALUE;
            for (int needed : changes[site]) {
                lowest = Math.min(lowest, needed * weights[site]);
            }
            return lowest;
        }

        int changesOf(int site) {
            return site < 0 || site >= m ? -2 : changes[site][upTo(0).get(0)];
        }
    }

    private static void due(String call, int got, int want) {
        Checks.due(call, got, want);
    }

    private static void setSomething(String run, ParsimonyPhylogeny x, Reference r) {
        if (pick(5) == 0) {
            int site = pickBetween(-1, r.m);
            int weight = pickBetween(-1, 10);
            due(run + "weight(" + site + ", " + weight + ")", x.weight(site, weight), r.weight(site, weight));
            return;
        }
        int taxon = pick(12) == 0 ? pickBetween(-1, r.n) : pick(r.n);
        int site = pick(12) == 0 ? pickBetween(-1, r.m) : pick(r.m);
        int set = pick(2) == 0 ? 1 << pick(4) : pickBetween(0, 16);
        due(run + "states(" + taxon + ", " + site + ", " + set + ")", x.states(taxon, site, set), r.states(taxon, site, set));
    }

    private static void askSomething(String run, ParsimonyPhylogeny x, Reference r) {
        int site = pickBetween(-1, r.m);
        switch (pick(8)) {
            case 0 -> due(run + "trees()", x.trees(), r.graphs.size());
            case 1 -> {
                int code = pickBetween(-1, r.graphs.size());
                due(run + "score(" + code + ")", x.score(code), r.score(code));
            }
            case 2 -> due(run + "least()", x.least(), r.score(r.upTo(0).get(0)));
            case 3 -> due(run + "bestTree()", x.bestTree(), r.upTo(0).get(0));
            case 4 -> {
                int extra = pick(8) == 0 ? Integer.MAX_VALUE - pick(9) : pickBetween(-2, 30);
                due(run + "within(" + extra + ")", x.within(extra), extra < 0 ? 0 : r.upTo(extra).size());
            }
            case 5 -> {
                int mask = pick(4) == 0 ? (int) (seed >>> 32) : pick(1 << r.n);
                due(run + "support(" + mask + ")", x.support(mask), r.support(mask));
            }
            case 6 -> due(run + "siteLeast(" + site + ")", x.siteLeast(site), r.siteLeast(site));
            default -> due(run + "changes(" + site + ")", x.changes(site), r.changesOf(site));
        }
    }

    private static void longRun(int number, int taxa, int sites) {
        ParsimonyPhylogeny x = new ParsimonyPhylogeny(taxa, sites);
        Reference r = new Reference(taxa, sites);
        for (int call = 0; call < CALLS; call++) {
            String run = "run " + number + " (" + taxa + ", " + sites + ") call " + call + ": ";
            boolean filling = call < 2 * taxa * sites;
            if (filling || pick(4) == 0) {
                setSomething(run, x, r);
            } else {
                askSomething(run, x, r);
            }
        }
    }

    private static void everyTree(int taxa, int sites) {
        ParsimonyPhylogeny x = new ParsimonyPhylogeny(taxa, sites);
        Reference r = new Reference(taxa, sites);
        for (int taxon = 0; taxon < taxa; taxon++) {
            for (int site = 0; site < sites; site++) {
                int set = pickBetween(1, 15);
                due("states", x.states(taxon, site, set), r.states(taxon, site, set));
            }
        }
        for (int code = 0; code < r.graphs.size(); code++) {
            due("every tree: score(" + code + ")", x.score(code), r.score(code));
        }
        for (int mask = 0; mask < 1 << taxa; mask++) {
            due("every tree: support(" + mask + ")", x.support(mask), r.support(mask));
        }
    }

    private static void everyTreeAlone(int taxa) {
        List<Graph> graphs = new Reference(taxa, 1).graphs;
        for (int code = 0; code < graphs.size(); code++) {
            Graph graph = graphs.get(code);
            ParsimonyPhylogeny x = graph.onlyBest();
            String run = "tree " + code + " of " + taxa + " taxa alone: ";
            due(run + "bestTree()", x.bestTree(), code);
            due(run + "within(0)", x.within(0), 1);
            due(run + "least()", x.least(), taxa - 3);
            due(run + "score", x.score(code), taxa - 3);
            for (int mask = 1; mask < (1 << taxa) - 1; mask++) {
                due(run + "support(" + mask + ")", x.support(mask), graph.separates(mask) ? 1 : 0);
            }
        }
    }

    public static void main(String[] args) {
        int number = 0;
        for (int taxa = 3; taxa <= 6; taxa++) {
            everyTreeAlone(taxa);
            for (int sites = 1; sites <= 8; sites++) {
                longRun(++number, taxa, sites);
                everyTree(taxa, sites);
            }
        }
        Checks.end();
    }
}
