/**
 * Every largest number of the document, long rows and deep trees. Some need more than the 512 calls
 * behind which answers are free; the program keeps its limits there as well.
 */
public final class LimitsTest {
    private static final int NONE = SyntaxTrees.NONE;
    private static final int ANY = Integer.MAX_VALUE;

    private LimitsTest() {
    }

    public static void main(String[] args) {
        symbols();
        sortsByVariables();
        sortsByRules();
        rules();
        ruleLength();
        ruleSymbols();
        longestRules();
        longRows();
        brackets();
        deepTree(60, false);
        deepTree(100, false);
        deepTree(60, true);
        deepTree(100, true);
        manyWraps();
        everythingAtOnce();
        Due.end();
    }

    private static void due(String call, int got, int want) {
        Due.due(call, got, want);
    }

    private static SyntaxTrees withConstants(int number) {
        SyntaxTrees x = new SyntaxTrees();
        for (int k = 0; k < number; k++) {
            due("symbol(NONE)", x.symbol(NONE), k);
        }
        return x;
    }

    private static void rule(SyntaxTrees x, int sort, int... symbols) {
        due("begin", x.begin(sort) >= 0 ? 1 : 0, 1);
        for (int k = 0; k < symbols.length; k++) {
            due("put", x.put(symbols[k]), k + 1);
        }
        due("close", x.close(), 1);
    }

    private static void symbols() {
        SyntaxTrees x = withConstants(999);
        due("the 1000th", x.symbol(998), 999);
        due("the 1001st, a constant", x.symbol(NONE), NONE);
        due("the 1001st, a variable", x.symbol(0), NONE);
        due("symbols", x.count(0), 1000);
        due("sorts", x.count(1), 1);
        due("add the last", x.add(999), 1);
        due("add behind it", x.add(1000), NONE);
        due("trees of the last constant", x.trees(998, 0), 1);
    }

    private static void sortsByVariables() {
        SyntaxTrees x = withConstants(102);
        for (int sort = 0; sort < 100; sort++) {
            due("the first of a type", x.symbol(sort), 102 + sort);
        }
        due("sorts", x.count(1), 100);
        due("one more sort by a variable", x.symbol(100), NONE);
        due("one more sort by a rule", x.begin(100), NONE);
        due("symbols", x.count(0), 202);
        due("one more of a sort", x.symbol(99), 202);
        due("a constant", x.symbol(NONE), 203);
        due("a rule of a sort", x.begin(99), 0);
        due("put", x.put(201), 1);
        due("put", x.put(100), 2);
        due("close", x.close(), 1);
        x.add(202);
        x.add(100);
        due("trees of the last sort", x.trees(99, 1), 1);
        due("trees of the first sort", x.trees(0, 1), 0);
        due("trees of what can't be a sort", x.trees(100, 1), 0);
        due("sorts", x.count(1), 100);
    }

    private static void sortsByRules() {
        SyntaxTrees x = withConstants(102);
        for (int sort = 0; sort < 99; sort++) {
            rule(x, sort, 101);
        }
        due("the 100th, open", x.begin(99), 99);
        due("sorts", x.count(1), 100);
        due("one more sort by a variable", x.symbol(100), NONE);
        due("put", x.put(101), 1);
        due("close", x.close(), 1);
        due("one more sort by a rule", x.begin(100), NONE);
        due("one more rule of a sort", x.begin(0), 100);
        x.add(101);
        due("trees", x.trees(99, ANY), 1);
    }

    private static void rules() {
        SyntaxTrees x = withConstants(2);
        for (int k = 0; k < 1500; k++) {
            due("begin", x.begin(0), k);
            due("put", x.put(1), 1);
            due("close", x.close(), 1);
        }
        due("the 1501st", x.begin(0), NONE);
        due("put into it", x.put(1), NONE);
        due("close it", x.close(), 0);
        due("rules", x.count(2), 1500);
        due("rules' symbols", x.count(3), 1500);
        x.add(1);
        due("trees by all", x.trees(0, 1500), 2);
        due("trees by one", x.trees(0, 1), 1);
        due("make by one", x.make(0, 1), 1);
    }

    private static void ruleLength() {
        SyntaxTrees x = withConstants(2);
        x.begin(0);
        for (int k = 1; k <= 299; k++) {
            due("put", x.put(1), k);
        }
        due("the 300th", x.put(1), NONE);
        due("symbols", x.count(3), 299);
        due("close", x.close(), 1);
        x.add(1);
        due("trees", x.trees(0, 1), 0);
        due("begin", x.begin(0), 1);
        due("put into the next", x.put(1), 1);
    }

    private static void ruleSymbols() {
        SyntaxTrees x = withConstants(2);
        for (int all = 0; all < 30000; all += 200) {
            x.begin(0);
            for (int k = 1; k <= 200; k++) {
                due("put", x.put(1), k);
            }
            due("close", x.close(), 1);
        }
        due("symbols", x.count(3), 30000);
        due("one more rule", x.begin(0), 150);
        due("one more symbol", x.put(1), NONE);
        due("close without it", x.close(), 0);
        due("symbols", x.count(3), 30000);
        x.add(1);
        due("trees", x.trees(0, ANY), 0);
    }

    /** Rules of 59 and of 60 symbols, for a row of 59; then with a variable in them. */
    private static void longestRules() {
        SyntaxTrees x = withConstants(2);
        x.symbol(0);
        x.symbol(0);
        int[] ones = new int[60];
        java.util.Arrays.fill(ones, 1);
        rule(x, 0, ones);
        for (int k = 0; k < 59; k++) {
            x.add(1);
        }
        due("too long a rule", x.trees(0, ANY), 0);
        rule(x, 0, java.util.Arrays.copyOf(ones, 59));
        due("as long a rule", x.trees(0, ANY), 1);
        due("one place less", x.part(0, ANY, 0, 58), 0);
        due("make", x.make(0, ANY), 1);
        due("its end", x.node(0, 3), 59);
        due("check", x.check(), 1);
        rule(x, 0, 1);
        int[] mixed = java.util.Arrays.copyOf(ones, 58);
        mixed[57] = 2;
        rule(x, 0, mixed);
        due("a variable at its end", x.part(0, ANY, 1, 59), 1);
        due("it may not grow", x.part(0, ANY, 0, 59), 1);
        rule(x, 0, 1, 1, 2);
        due("variables of 2 places, of 57 + 2", x.trees(0, ANY), 2);
    }

    private static void longRows() {
        SyntaxTrees x = withConstants(3);
        x.symbol(0);
        x.symbol(0);
        rule(x, 0, 3, 1);
        rule(x, 0, 1);
        for (int k = 0; k < 59; k++) {
            x.add(1);
        }
        due("to the left", x.trees(0, 2), 1);
        due("make it", x.make(0, 2), 59);
        due("told first", x.told(0), 1);
        for (int k = 1; k < 59; k++) {
            due("told", x.told(k), 0);
            due("end", x.node(k, 3), 59 - k);
        }
        due("check", x.check(), 1);
        rule(x, 0, 1, 3);
        due("to both sides", x.trees(0, 3), 2);
        due("two ways for two places", x.part(0, 3, 5, 7), 2);
        due("one place", x.part(0, 3, 58, 59), 1);
        rule(x, 0, 2);
        rule(x, 0, 3, 4);
        due("all splits", x.trees(0, 5), 2);
        x.empty();
        for (int k = 0; k < 58; k++) {
            x.add(1);
        }
        x.add(2);
        due("another end, the only one by these", x.trees(0, 4), 1);
        due("make it", x.make(0, 4), 59);
        due("start of the last", x.node(58, 2), 58);
        due("told first", x.told(0), 3);
        due("told then", x.told(1), 2);
        due("by all", x.trees(0, 5), 2);
    }

    private static void brackets() {
        SyntaxTrees x = withConstants(3);
        x.symbol(0);
        x.symbol(0);
        rule(x, 0, 1, 3, 2, 4);
        rule(x, 0, 1, 2, 4);
        rule(x, 0, 1, 3, 2);
        rule(x, 0, 1, 2);
        for (int k = 0; k < 58; k++) {
            x.add(k < 10 || k % 2 == 0 && k < 48 ? 1 : 2);
        }
        due("brackets, bound uniquely", x.trees(0, ANY), 1);
        due("a bracket each", x.make(0, ANY), 29);
        due("check", x.check(), 1);
        due("cut off", x.part(0, ANY, 0, 57), 0);
        due("a stretch", x.part(0, ANY, 9, 49), 1);
        due("a stretch off", x.part(0, ANY, 10, 49), 0);
    }

    /** Every stretch of the tree stands in as many sorts as there are: told without recursion. */
    private static void deepTree(int sorts, boolean twoParts) {
        int leaf = sorts;
        int fork = sorts + 1;
        SyntaxTrees x = withConstants(sorts + 2);
        for (int sort = 0; sort < sorts; sort++) {
            x.symbol(sort);
        }
        int other = x.symbol(0);
        int whole = sorts + 2;
        for (int sort = 0; sort < sorts - 1; sort++) {
            rule(x, sort, whole + sort + 1);
        }
        rule(x, sorts - 1, leaf);
        if (twoParts) {
            rule(x, sorts - 1, fork, whole, other);
        } else {
            rule(x, sorts - 1, fork, whole);
        }
        for (int k = 0; k < 58; k++) {
            x.add(twoParts && k % 2 == 1 ? leaf : fork);
        }
        x.add(leaf);
        due("deep trees", x.trees(0, ANY), 1);
        due("deep nodes", x.make(0, ANY), 59 * sorts);
        due("check", x.check(), 1);
        toldInOrder(x, sorts, twoParts);
        due("the last sort first has a node", x.make(sorts - 1, ANY), 59 * sorts - sorts + 1);
        due("check", x.check(), 1);
        due("the nodes that were", x.node(59 * sorts - sorts + 1, 0), NONE);
    }

    private static void toldInOrder(SyntaxTrees x, int sorts, boolean twoParts) {
        int k = 0;
        int leaves = twoParts ? 30 : 1;
        for (int stretch = 0; stretch < 59; stretch++) {
            due("told leaf or fork", x.told(k), stretch < leaves ? sorts - 1 : sorts);
            for (int sort = sorts - 2; sort >= 0; sort--) {
                due("told wrap", x.told(k + sorts - 1 - sort), sort);
            }
            k += sorts;
        }
        due("told behind", x.told(k), NONE);
    }

    /** Wraps told in an order against their use, and a ladder that doubles at each step. */
    private static void manyWraps() {
        SyntaxTrees x = withConstants(100);
        for (int sort = 0; sort < 100; sort++) {
            x.symbol(sort);
        }
        for (int sort = 98; sort >= 0; sort--) {
            rule(x, sort, 100 + sort + 1);
        }
        x.add(199);
        due("the last variable as the first sort", x.trees(0, 99), 1);
        due("one rule short", x.trees(0, 98), 0);
        due("make", x.make(0, 99), 100);
        due("told", x.told(0), -201);
        rule(x, 50, 151);
        due("a rule twice", x.trees(0, ANY), 2);
        due("below it", x.trees(51, ANY), 1);
        due("limit", x.trees(0, 99), 1);
        rule(x, 99, 100);
        due("a circle of all", x.trees(77, ANY), 2);
    }

    /** All rules, all their symbols, the longest row: the call has to end soon. */
    private static void everythingAtOnce() {
        SyntaxTrees x = withConstants(2);
        int[] variables = new int[20];
        for (int k = 0; k < 20; k++) {
            variables[k] = x.symbol(0);
        }
        for (int k = 0; k < 1499; k++) {
            rule(x, 0, variables);
        }
        rule(x, 0, 1);
        for (int k = 0; k < 59; k++) {
            x.add(1);
        }
        due("59 = 58 + 1 can't be", x.trees(0, ANY), 0);
        due("58 = 20 + 19 + 19", x.part(0, ANY, 1, 59), 2);
        due("39 = 20 + 19", x.part(0, ANY, 0, 39), 2);
        due("not 19", x.part(0, ANY, 0, 19), 0);
        due("make", x.make(0, ANY), NONE);
    }
}
