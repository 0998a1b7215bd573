import java.util.ArrayList;
import java.util.List;
import java.util.function.Supplier;
import java.util.function.ToIntFunction;

/**
 * The document from its first line: the words between the boundary cases, and that a call does what
 * is said of it and nothing else.
 */
public final class WholeDocumentTest {
    private static final int NONE = States.NONE;
    private static final int ANY = States.ANY;
    private static final int TERMS = Words.TERMS;
    private static final int COUNTS = 6;

    private WholeDocumentTest() {
    }

    public static void main(String[] args) {
        whatItIs();
        terms();
        counting();
        making();
        changes();
        apart();
        Due.end();
    }

    private static void due(String call, int got, int want) {
        Due.due(call, got, want);
    }

    /**
     * Constants 0 formula, 1 (, 2 ), 3 ->, 4 -, 5 &, 6 no sort; variables 7 p, 8 q, 9 r. Rules 0:
     * ( p -> q ), 1: - p, 2: q & p, whose variables stand in it against their numbers.
     */
    private static SyntaxTrees formulas() {
        SyntaxTrees x = States.constants(7);
        for (int variable = 7; variable < 10; variable++) {
            due("symbol(0)", x.symbol(0), variable);
        }
        States.rule(x, 0, 1, 7, 3, 8, 2);
        States.rule(x, 0, 4, 7);
        States.rule(x, 0, 8, 5, 7);
        return x;
    }

    /** The tree of ( - r -> q & - p ), with the row - p & q at hand. */
    private static SyntaxTrees madeFormula() {
        SyntaxTrees x = formulas();
        States.row(x, 1, 4, 9, 3, 8, 5, 4, 7, 2);
        due("make", x.make(0, ANY), 7);
        States.row(x, 4, 7, 5, 8);
        return x;
    }

    private static void whatItIs() {
        Words.say(Words.WHAT_IT_IS, "Rules that sorts are made of rows of symbols",
                () -> States.counts(formulas(), 10, 1, 3, 10, 0, 0));
        Words.say(Words.WHAT_IT_IS, "the trees that they give to a row: how many there are", () -> {
            SyntaxTrees x = formulas();
            States.row(x, 1, 7, 3, 8, 2);
            due("( p -> q )", x.trees(0, ANY), 1);
            States.row(x, 1, 7, 3, 8);
            due("( p -> q", x.trees(0, ANY), 0);
            States.row(x, 4, 7, 5, 8);
            due("- p & q, by the sign within and without", x.trees(0, ANY), 2);
        });
        Words.say(Words.WHAT_IT_IS, "and the only one", () -> {
            due("nodes", madeFormula().count(5), 7);
            due("check", madeFormula().check(), 1);
        });
    }

    private static void terms() {
        Words.say(TERMS, "A rule is OPEN while its symbols are told", () -> {
            SyntaxTrees x = formulas();
            States.row(x, 6, 6);
            due("begin", x.begin(0), 3);
            due("put", x.put(6), 1);
            due("put", x.put(6), 2);
            due("no tree by it", x.trees(0, ANY), 0);
            due("no other one", x.begin(0), NONE);
            due("close", x.close(), 1);
            due("a tree by it", x.trees(0, ANY), 1);
        });
        Words.say(TERMS, "then it is CLOSED", () -> {
            SyntaxTrees x = formulas();
            States.row(x, 4, 7, 6);
            due("no symbol more", x.put(6), NONE);
            due("the rule as it was told", x.part(0, ANY, 0, 2), 1);
            due("the rule with a symbol more", x.part(0, ANY, 0, 3), 0);
        });
        Words.say(TERMS, "each makes a sort of", () -> {
            SyntaxTrees x = formulas();
            States.row(x, 4, 7);
            States.rule(x, 6, 4, 7);
            due("of the one", x.make(0, ANY), 2);
            due("by its rule", x.node(0, 0), 1);
            due("of the other one", x.make(6, ANY), 2);
            due("by its rule", x.node(0, 0), 3);
        });
        Words.say(TERMS, "a node's PARTS are the trees of its rule's variables", () -> {
            SyntaxTrees x = madeFormula();
            due("two of five symbols", x.node(0, 5), 2);
            due("one of two", x.node(1, 5), 1);
            due("two of three", x.node(2, 5), 2);
        });
        Words.say(TERMS, "There is none, or nothing is done", () -> {
            due("there is none", madeFormula().node(7, 0), NONE);
            Twin.refused("nothing is done", WholeDocumentTest::madeFormula, x -> x.symbol(10));
        });
    }

    private static void counting() {
        Words.say(2, "One more symbol", () -> {
            SyntaxTrees x = formulas();
            due("a constant behind variables", x.symbol(NONE), 10);
            due("a variable behind it", x.symbol(10), 11);
        });
        Words.say(8, "How many trees of a sort the whole row has", () -> {
            SyntaxTrees x = formulas();
            States.row(x, 7);
            due("p", x.trees(0, ANY), 1);
            States.row(x, 7, 5);
            due("p &", x.trees(0, ANY), 0);
            States.row(x, 7, 5, 8);
            due("p & q", x.trees(0, ANY), 1);
            States.row(x, 7, 5, 8, 5);
            due("p & q &", x.trees(0, ANY), 0);
            States.row(x, 7, 5, 8, 5, 9);
            due("p & q & r", x.trees(0, ANY), 2);
            States.row(x, 5, 7);
            due("& p", x.trees(0, ANY), 0);
        });
        Words.say(9, "How many trees of a sort", WholeDocumentTest::allStretches);
    }

    /** Of - p & q by end (across, from 1) and begin (down). */
    private static void allStretches() {
        int[][] want = {{0, 1, 0, 2}, {NONE, 1, 0, 1}, {NONE, NONE, 0, 0}, {NONE, NONE, NONE, 1}};
        SyntaxTrees x = madeFormula();
        for (int from = 0; from < 4; from++) {
            for (int to = 1; to <= 4; to++) {
                due("part from " + from + " to " + to, x.part(0, ANY, from, to), want[from][to - 1]);
            }
        }
        due("the whole", x.part(0, ANY, 0, x.count(4)), x.trees(0, ANY));
    }

    private static void making() {
        Words.say(10, "Makes the only tree of a sort for the whole row", () -> {
            SyntaxTrees x = madeFormula();
            due("begin", x.node(0, 2), 0);
            due("end", x.node(0, 3), 9);
            due("sort", x.node(0, 1), 0);
        });
        Words.say(11, "Of a node of the tree that was made", () -> {
            int[][] want = {
                {0, 0, 0, 9, 1, 2},
                {1, 0, 1, 3, 3, 1},
                {2, 0, 4, 8, 4, 2},
                {NONE, 0, 2, 3, NONE, 0},
                {NONE, 0, 4, 5, NONE, 0},
                {1, 0, 6, 8, 6, 1},
                {NONE, 0, 7, 8, NONE, 0}};
            SyntaxTrees x = madeFormula();
            for (int k = 0; k < want.length; k++) {
                for (int what = 0; what < COUNTS; what++) {
                    due("node(" + k + ", " + what + ")", x.node(k, what), want[k][what]);
                }
            }
        });
        Words.say(12, "the rule of the k-th node told so", () -> {
            int[] want = {-11, 1, -10, -9, 1, 2, 0};
            SyntaxTrees x = madeFormula();
            for (int k = 0; k < want.length; k++) {
                due("told(" + k + ")", x.told(k), want[k]);
            }
        });
    }

    private static void changes() {
        Words.say(Words.NOT_PROMISED,
                "Nothing is promised beyond the answers and state changes described above", () -> {
            changesByTelling();
            changesByRows();
            askingChangesNothing();
        });
    }

    private static void changesByTelling() {
        changed("a constant", States::open, x -> x.symbol(NONE), 10, 1, 0, 0, 0, 0);
        changed("a variable", States::open, x -> x.symbol(0), 10, 1, 0, 0, 0, 0);
        changed("a variable of a new sort", States::open, x -> x.symbol(5), 10, 1, 1, 0, 0, 0);
        changed("begin", States::made, x -> x.begin(0), 4, 0, 0, 0, 0, 0);
        changed("begin of a new sort", States::made, x -> x.begin(5), 4, 0, 1, 0, 0, 0);
        changed("put a constant", States::open, x -> x.put(5), 4, 0, 0, 0, 1, 0);
        changed("put a variable", States::open, x -> x.put(8), 4, 0, 0, 0, 1, 0);
        changed("close", States::open, SyntaxTrees::close, 1, 0, 0, 1, 0, 0);
    }

    private static void changesByRows() {
        changed("add a constant", States::open, x -> x.add(5), 6, 0, 0, 0, 0, 1);
        changed("add a variable", States::open, x -> x.add(9), 6, 0, 0, 0, 0, 1);
        changed("empty", States::open, SyntaxTrees::empty, 5, 0, 0, 0, 0, -5);
        SyntaxTrees x = askable();
        int[] before = counts(x);
        due("make", x.make(1, ANY), 1);
        due("nodes", x.count(5), 1);
        for (int what = 0; what < 5; what++) {
            due("count(" + what + ") behind make", x.count(what), before[what]);
        }
    }

    /** The call answers so, the first five counts grow so, and the tree that was made stays. */
    private static void changed(
            String name, Supplier<SyntaxTrees> state, ToIntFunction<SyntaxTrees> call, int answer,
            int... growth) {
        SyntaxTrees x = state.get();
        int[] before = counts(x);
        List<Integer> tree = tree(x);
        due(name, call.applyAsInt(x), answer);
        for (int what = 0; what < growth.length; what++) {
            due(name + ": count(" + what + ")", x.count(what), before[what] + growth[what]);
        }
        due(name + ": the tree stays", tree(x).equals(tree) ? 1 : 0, 1);
        due(name + ": check", x.check(), 1);
    }

    private static int[] counts(SyntaxTrees x) {
        int[] counts = new int[COUNTS];
        for (int what = 0; what < COUNTS; what++) {
            counts[what] = x.count(what);
        }
        return counts;
    }

    private static List<Integer> tree(SyntaxTrees x) {
        List<Integer> tree = new ArrayList<>();
        for (int k = -1; k <= x.count(5); k++) {
            for (int what = 0; what < COUNTS; what++) {
                tree.add(x.node(k, what));
            }
            tree.add(x.told(k));
        }
        return tree;
    }

    /** As open, with the row 'b' at hand. */
    private static SyntaxTrees askable() {
        SyntaxTrees x = States.open();
        States.row(x, 4);
        return x;
    }

    private static void askingChangesNothing() {
        Supplier<SyntaxTrees> state = WholeDocumentTest::askable;
        Twin.idle("trees of one sort", state, x -> x.trees(0, ANY), 1);
        Twin.idle("trees of the other", state, x -> x.trees(1, ANY), 1);
        Twin.idle("trees below a limit", state, x -> x.trees(1, 3), 0);
        Twin.idle("trees of no sort", state, x -> x.trees(5, ANY), 0);
        Twin.idle("part", state, x -> x.part(1, ANY, 0, 1), 1);
        Twin.idle("part below a limit", state, x -> x.part(0, 1, 0, 1), 0);
        Twin.idle("told", state, x -> x.told(0), 2);
        Twin.idle("check", state, SyntaxTrees::check, 1);
        int[] nodes = {0, 0, 0, 3, 1, 2};
        int[] counts = {10, 2, 4, 9, 1, 4};
        for (int k = 0; k < COUNTS; k++) {
            int what = k;
            Twin.idle("node(0, " + k + ")", state, x -> x.node(0, what), nodes[k]);
            Twin.idle("count(" + k + ")", state, x -> x.count(what), counts[k]);
        }
    }

    /** Two objects that are used by turns answer as each of them does alone. */
    private static void apart() {
        List<ToIntFunction<SyntaxTrees>> first = signs(3, 2);
        List<ToIntFunction<SyntaxTrees>> second = signs(2, 1);
        List<Integer> firstAlone = answers(first);
        List<Integer> secondAlone = answers(second);
        SyntaxTrees x = States.fresh();
        SyntaxTrees y = States.fresh();
        for (int k = 0; k < first.size(); k++) {
            due("the first's call " + k, first.get(k).applyAsInt(x), firstAlone.get(k));
            if (k < second.size()) {
                due("the second's call " + k, second.get(k).applyAsInt(y), secondAlone.get(k));
            }
        }
        due("the first's nodes", x.count(5), 3);
        due("the second's nodes", y.count(5), 2);
        due("the first's variable", x.told(0), -5);
        due("the second's variable", y.told(0), -4);
    }

    private static List<Integer> answers(List<ToIntFunction<SyntaxTrees>> calls) {
        SyntaxTrees x = States.fresh();
        List<Integer> answers = new ArrayList<>();
        for (ToIntFunction<SyntaxTrees> call : calls) {
            answers.add(call.applyAsInt(x));
        }
        return answers;
    }

    /** Calls for a rule of the last constant, a sign, and a variable, and for a row of such signs. */
    private static List<ToIntFunction<SyntaxTrees>> signs(int constants, int signs) {
        int sort = constants - 2;
        int sign = constants - 1;
        List<ToIntFunction<SyntaxTrees>> calls = new ArrayList<>();
        for (int k = 0; k < constants; k++) {
            calls.add(x -> x.symbol(NONE));
        }
        calls.add(x -> x.symbol(sort));
        calls.add(x -> x.begin(sort));
        calls.add(x -> x.put(sign));
        calls.add(x -> x.put(constants));
        calls.add(SyntaxTrees::close);
        for (int k = 0; k < signs; k++) {
            calls.add(x -> x.add(sign));
        }
        calls.add(x -> x.add(constants));
        calls.add(x -> x.trees(sort, ANY));
        calls.add(x -> x.part(sort, ANY, 1, 2));
        calls.add(x -> x.make(sort, ANY));
        calls.add(SyntaxTrees::check);
        for (int k = 0; k < COUNTS; k++) {
            int what = k;
            calls.add(x -> x.count(what));
            calls.add(x -> x.node(0, what));
            calls.add(x -> x.told(what));
        }
        return calls;
    }
}
