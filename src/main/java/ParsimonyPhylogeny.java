/** Trees of descent with the fewest changes. */
public final class ParsimonyPhylogeny {
    public static final int BAD_TAXON = -1;
    public static final int BAD_SITE = -2;
    public static final int BAD_STATES = -3;
    public static final int BAD_WEIGHT = -4;
    public static final int BAD_CODE = -5;

    private static final int LEAST_TAXA = 3;
    private static final int MOST_TAXA = 6;
    private static final int LEAST_SITES = 1;
    private static final int MOST_SITES = 8;
    private static final int MOST_CELLS = 48;
    private static final int MOST_EDGES = 9;
    private static final int ALL_STATES = 15;
    private static final int MOST_WEIGHT = 9;
    private static final int NO_TAXON = -1;

    private final int taxonCount;
    private final int siteCount;
    private final int treeCount;

    private final int[] stateSets = new int[MOST_CELLS];
    private final int[] weights = new int[MOST_SITES];

    // The tree that was built last, hung up at taxon 0: an edge's far end is
    // either a taxon or an inner node with two edges below it.
    private final int[] farTaxon = new int[MOST_EDGES];
    private final int[] leftBelow = new int[MOST_EDGES];
    private final int[] rightBelow = new int[MOST_EDGES];
    // Every edge stands here ahead of the edges below it, so that a walk from
    // the back meets both lower edges first and needs no recursion.
    private final int[] downward = new int[MOST_EDGES];
    private int edgeCount;

    private final int[] farStates = new int[MOST_EDGES];
    private final int[] farSide = new int[MOST_EDGES];

    public ParsimonyPhylogeny(int taxa, int sites) {
        taxonCount = clamp(taxa, LEAST_TAXA, MOST_TAXA);
        siteCount = clamp(sites, LEAST_SITES, MOST_SITES);
        treeCount = countTrees(taxonCount);
        for (int cell = 0; cell < MOST_CELLS; cell++) {
            stateSets[cell] = ALL_STATES;
        }
        for (int site = 0; site < MOST_SITES; site++) {
            weights[site] = 1;
        }
    }

    public int states(int taxon, int site, int states) {
        if (taxon < 0 || taxon >= taxonCount) {
            return BAD_TAXON;
        }
        if (!isSite(site)) {
            return BAD_SITE;
        }
        if (states < 1 || states > ALL_STATES) {
            return BAD_STATES;
        }
        int cell = taxon * MOST_SITES + site;
        int old = stateSets[cell];
        stateSets[cell] = states;
        return old;
    }

    public int weight(int site, int weight) {
        if (!isSite(site)) {
            return BAD_SITE;
        }
        if (weight < 0 || weight > MOST_WEIGHT) {
            return BAD_WEIGHT;
        }
        int old = weights[site];
        weights[site] = weight;
        return old;
    }

    public int trees() {
        return treeCount;
    }

    public int score(int code) {
        if (code < 0 || code >= treeCount) {
            return BAD_CODE;
        }
        buildTree(code);
        return scoreOfBuilt();
    }

    public int least() {
        int best = firstBestCode();
        return score(best);
    }

    public int bestTree() {
        return firstBestCode();
    }

    public int within(int extra) {
        if (extra < 0) {
            return 0;
        }
        int best = firstBestCode();
        int lowest = score(best);
        int count = 0;
        for (int code = 0; code < treeCount; code++) {
            buildTree(code);
            // The difference is compared, since lowest + extra could wrap around.
            int over = scoreOfBuilt() - lowest;
            if (over <= extra) {
                count++;
            }
        }
        return count;
    }

    public int support(int mask) {
        int everyone = (1 << taxonCount) - 1;
        int side = mask & everyone;
        if (side == 0 || side == everyone) {
            return 0;
        }
        // An edge's far side never holds taxon 0, so the other side is sought.
        if ((side & 1) == 1) {
            side = everyone ^ side;
        }
        int best = firstBestCode();
        int lowest = score(best);
        int count = 0;
        for (int code = 0; code < treeCount; code++) {
            buildTree(code);
            if (scoreOfBuilt() == lowest && builtSeparates(side)) {
                count++;
            }
        }
        return count;
    }

    public int siteLeast(int site) {
        if (!isSite(site)) {
            return BAD_SITE;
        }
        buildTree(0);
        int fewest = changesOfBuilt(site);
        for (int code = 1; code < treeCount; code++) {
            buildTree(code);
            int needed = changesOfBuilt(site);
            if (needed < fewest) {
                fewest = needed;
            }
        }
        return fewest * weights[site];
    }

    public int changes(int site) {
        if (!isSite(site)) {
            return BAD_SITE;
        }
        int best = firstBestCode();
        buildTree(best);
        return changesOfBuilt(site);
    }

    private static int clamp(int value, int least, int most) {
        if (value < least) {
            return least;
        }
        return value > most ? most : value;
    }

    private static int countTrees(int taxa) {
        int count = 1;
        for (int taxon = LEAST_TAXA; taxon < taxa; taxon++) {
            count *= edgesBefore(taxon);
        }
        return count;
    }

    private static int edgesBefore(int taxon) {
        return 2 * taxon - 3;
    }

    private boolean isSite(int site) {
        return site >= 0 && site < siteCount;
    }

    private int firstBestCode() {
        int best = 0;
        buildTree(0);
        int lowest = scoreOfBuilt();
        for (int code = 1; code < treeCount; code++) {
            buildTree(code);
            int sum = scoreOfBuilt();
            if (sum < lowest) {
                lowest = sum;
                best = code;
            }
        }
        return best;
    }

    private void buildTree(int code) {
        startTree();
        int rest = code;
        for (int taxon = LEAST_TAXA; taxon < taxonCount; taxon++) {
            int choices = edgesBefore(taxon);
            addTaxon(taxon, rest % choices);
            rest /= choices;
        }
    }

    private void startTree() {
        setInner(0, 1, 2);
        setLeaf(1, 1);
        setLeaf(2, 2);
        downward[0] = 0;
        downward[1] = 1;
        downward[2] = 2;
        edgeCount = 3;
    }

    private void setInner(int edge, int left, int right) {
        farTaxon[edge] = NO_TAXON;
        leftBelow[edge] = left;
        rightBelow[edge] = right;
    }

    private void setLeaf(int edge, int taxon) {
        farTaxon[edge] = taxon;
        // A leaf's lower edges are never followed; -1 keeps an edge of the
        // tree before from being taken for one when edges are replaced.
        leftBelow[edge] = -1;
        rightBelow[edge] = -1;
    }

    private void addTaxon(int taxon, int edge) {
        int nearHalf = edgeCount;
        int taxonEdge = edgeCount + 1;
        replaceBelow(edge, nearHalf);
        setInner(nearHalf, edge, taxonEdge);
        setLeaf(taxonEdge, taxon);
        insertAhead(edge, nearHalf);
        downward[edgeCount + 1] = taxonEdge;
        edgeCount += 2;
    }

    private void replaceBelow(int old, int replacement) {
        for (int edge = 0; edge < edgeCount; edge++) {
            if (leftBelow[edge] == old) {
                leftBelow[edge] = replacement;
            }
            if (rightBelow[edge] == old) {
                rightBelow[edge] = replacement;
            }
        }
    }

    private void insertAhead(int edge, int inserted) {
        int place = 0;
        while (place < edgeCount && downward[place] != edge) {
            place++;
        }
        for (int moved = edgeCount; moved > place; moved--) {
            downward[moved] = downward[moved - 1];
        }
        downward[place] = inserted;
    }

    private int scoreOfBuilt() {
        int sum = 0;
        for (int site = 0; site < siteCount; site++) {
            int needed = changesOfBuilt(site);
            sum += needed * weights[site];
        }
        return sum;
    }

    // Fitch's count: an edge's far end keeps every state that costs the fewest
    // changes below it; any other state would cost at least one more, which is
    // never better than a change on the edge itself.
    private int changesOfBuilt(int site) {
        int needed = 0;
        for (int place = edgeCount - 1; place >= 0; place--) {
            int edge = downward[place];
            if (farTaxon[edge] != NO_TAXON) {
                farStates[edge] = stateSets[farTaxon[edge] * MOST_SITES + site];
            } else {
                int left = farStates[leftBelow[edge]];
                int right = farStates[rightBelow[edge]];
                boolean apart = (left & right) == 0;
                farStates[edge] = apart ? left | right : left & right;
                needed += apart ? 1 : 0;
            }
        }
        int statesOfTaxon0 = stateSets[site];
        boolean apart = (farStates[downward[0]] & statesOfTaxon0) == 0;
        return apart ? needed + 1 : needed;
    }

    private boolean builtSeparates(int side) {
        boolean found = false;
        for (int place = edgeCount - 1; place >= 0; place--) {
            int edge = downward[place];
            if (farTaxon[edge] != NO_TAXON) {
                farSide[edge] = 1 << farTaxon[edge];
            } else {
                farSide[edge] = farSide[leftBelow[edge]] | farSide[rightBelow[edge]];
            }
            found = found || farSide[edge] == side;
        }
        return found;
    }
}
