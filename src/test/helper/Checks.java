import java.util.ArrayList;
import java.util.List;

// What the tests share: counting wrong answers, and making objects whose sites
// are written as columns of letters.
final class Checks {
    private static String about = "";
    private static int checked = 0;
    private static int wrong = 0;

    private Checks() {
    }

    // Stands ahead of every wrong answer that is printed from now on.
    static void about(String words) {
        about = words + ": ";
    }

    static void due(String call, long got, long want) {
        checked++;
        if (got != want) {
            wrong++;
            System.out.println(about + call + " answered " + got + ", due is " + want);
        }
    }

    static void threw(RuntimeException thrown) {
        wrong++;
        System.out.println(about + "a call threw " + thrown);
    }

    static void end() {
        System.out.println(checked + " answers checked, " + wrong + " wrong");
        if (wrong != 0) {
            System.exit(1);
        }
    }

    // One letter a taxon: ACGT for one state, '*' for the set 15.
    static void column(ParsimonyPhylogeny x, int site, String letters) {
        for (int taxon = 0; taxon < letters.length(); taxon++) {
            char letter = letters.charAt(taxon);
            x.states(taxon, site, letter == '*' ? 15 : 1 << "ACGT".indexOf(letter));
        }
    }

    static ParsimonyPhylogeny of(String... columns) {
        ParsimonyPhylogeny x = new ParsimonyPhylogeny(columns[0].length(), columns.length);
        for (int site = 0; site < columns.length; site++) {
            column(x, site, columns[site]);
        }
        return x;
    }

    // Each column is to be a split of the taxa in two states, and together they
    // are to be the inner edges of one tree: that tree alone has a single
    // change a column.
    static void onlyTree(String what, int code, String... columns) {
        ParsimonyPhylogeny x = of(columns);
        due(what + ": score(" + code + ")", x.score(code), columns.length);
        due(what + ": least()", x.least(), columns.length);
        due(what + ": bestTree()", x.bestTree(), code);
        due(what + ": within(0)", x.within(0), 1);
    }

    // Everything that calls can tell about an object of n taxa and m sites,
    // which is left as it was found; takes 104 calls for (5, 3). Sets and
    // weights come first, before an asking call could change them.
    static List<Integer> told(ParsimonyPhylogeny x, int n, int m) {
        List<Integer> answers = new ArrayList<>();
        for (int site = 0; site < m; site++) {
            int weight = x.weight(site, 0);
            answers.add(weight);
            x.weight(site, weight);
            for (int taxon = 0; taxon < n; taxon++) {
                int set = x.states(taxon, site, 15);
                answers.add(set);
                x.states(taxon, site, set);
            }
        }
        int trees = x.trees();
        answers.add(trees);
        answers.add(x.least());
        answers.add(x.bestTree());
        for (int code = 0; code < trees; code++) {
            answers.add(x.score(code));
        }
        for (int extra = 0; extra < 12; extra++) {
            answers.add(x.within(extra));
        }
        for (int mask = 0; mask < 1 << n; mask++) {
            answers.add(x.support(mask));
        }
        for (int site = 0; site < m; site++) {
            answers.add(x.siteLeast(site));
            answers.add(x.changes(site));
        }
        return answers;
    }
}
