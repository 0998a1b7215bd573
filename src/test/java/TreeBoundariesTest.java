/** The boundary cases of the tree that was made: the promises 11 to 14, sentence by sentence. */
public final class TreeBoundariesTest {
    private static final int NONE = States.NONE;
    private static final int ANY = States.ANY;
    private static final int MIN = States.MIN;
    private static final int MAX = States.MAX;
    private static final int TERMS = Words.TERMS;
    private static final int RULE = 0;
    private static final int SORT = 1;
    private static final int BEGINS = 2;
    private static final int ENDS = 3;
    private static final int FIRST_PART = 4;
    private static final int PARTS = 5;

    private TreeBoundariesTest() {
    }

    public static void main(String[] args) {
        terms();
        node();
        told();
        count();
        check();
        Due.end();
    }

    private static void due(String call, int got, int want) {
        Due.due(call, got, want);
    }

    /** The tree of States.made(): list = (list = item = a), item 9. */
    private static void every(String name, int what, int... want) {
        SyntaxTrees x = States.open();
        for (int k = 0; k < want.length; k++) {
            due(name + " of " + k, x.node(k, what), want[k]);
        }
        due("nodes", x.count(5), want.length);
    }

    /** A tree of one node, which is a variable. */
    private static SyntaxTrees oneVariable() {
        SyntaxTrees x = States.lists();
        States.row(x, 9);
        due("make", x.make(1, ANY), 1);
        return x;
    }

    /** A tree of one node, which is a rule without variables. */
    private static SyntaxTrees oneRule() {
        SyntaxTrees x = States.lists();
        States.row(x, 4);
        due("make", x.make(1, ANY), 1);
        return x;
    }

    private static void terms() {
        Words.say(TERMS, "number 0 is the whole", () -> {
            due("begins", States.made().node(0, BEGINS), 0);
            due("ends", States.made().node(0, ENDS), 3);
            due("sort", States.made().node(0, SORT), 0);
            due("of a variable alone", oneVariable().node(0, ENDS), 1);
            due("of a whole row", longest().node(0, ENDS), 59);
        });
        Words.say(TERMS, "as these stand in its symbols, numbered one behind the other",
                TreeBoundariesTest::manyParts);
        Words.say(TERMS, "parts of a node come behind those of all nodes with lesser numbers",
                TreeBoundariesTest::partsBehind);
    }

    /** A row of 59 a in a rule of 58 parts and one constant before the last of them. */
    private static SyntaxTrees longest() {
        SyntaxTrees x = States.constants(3);
        int[] symbols = new int[59];
        for (int k = 0; k < 59; k++) {
            symbols[k] = k == 57 ? 2 : x.symbol(1);
        }
        States.rule(x, 1, 2);
        States.rule(x, 0, symbols);
        States.row(x, States.times(59, 2));
        due("make", x.make(0, ANY), 59);
        return x;
    }

    private static void manyParts() {
        SyntaxTrees x = longest();
        due("parts", x.node(0, PARTS), 58);
        due("the first", x.node(0, FIRST_PART), 1);
        for (int k = 1; k <= 58; k++) {
            int place = k <= 57 ? k - 1 : 58;
            due("begin of " + k, x.node(k, BEGINS), place);
            due("end of " + k, x.node(k, ENDS), place + 1);
            due("rule of " + k, x.node(k, RULE), 0);
            due("parts of " + k, x.node(k, PARTS), 0);
        }
        due("behind the last", x.node(59, BEGINS), NONE);
        crossed();
    }

    /** Variables stand in the rule in an order that is not that of their numbers. */
    private static void crossed() {
        SyntaxTrees x = States.constants(3);
        x.symbol(1);
        x.symbol(2);
        States.rule(x, 0, 4, 3);
        States.row(x, 4, 3);
        due("make", x.make(0, ANY), 3);
        due("the first part's sort", x.node(1, SORT), 2);
        due("the second part's sort", x.node(2, SORT), 1);
        due("told first", x.told(0), -6);
        due("told second", x.told(1), -5);
    }

    private static void partsBehind() {
        SyntaxTrees x = States.constants(2);
        x.symbol(0);
        x.symbol(0);
        States.rule(x, 0, 1, 2, 3);
        States.row(x, 1, 1, 2, 3, 1, 2, 3);
        due("make", x.make(0, ANY), 7);
        int[] firsts = {1, 3, 5, NONE, NONE, NONE, NONE};
        int[] begins = {0, 1, 4, 2, 3, 5, 6};
        for (int k = 0; k < firsts.length; k++) {
            due("first part of " + k, x.node(k, FIRST_PART), firsts[k]);
            due("begin of " + k, x.node(k, BEGINS), begins[k]);
        }
    }

    private static void node() {
        Words.say(11, "(what 0; NONE for a variable)", () -> {
            every("rule", RULE, 0, 1, NONE, 2);
            due("of a variable alone", oneVariable().node(0, RULE), NONE);
            due("of a rule alone", oneRule().node(0, RULE), 3);
        });
        Words.say(11, "sort (1)", () -> {
            every("sort", SORT, 0, 0, 1, 1);
            due("of a variable alone", oneVariable().node(0, SORT), 1);
        });
        Words.say(11, "where its stretch begins (2) and ends (3: behind its last place)", () -> {
            every("begin", BEGINS, 0, 0, 2, 0);
            every("end", ENDS, 3, 1, 3, 1);
        });
        Words.say(11, "its first part (4; NONE without parts)", () -> {
            every("first part", FIRST_PART, 1, 3, NONE, NONE);
            due("of a variable alone", oneVariable().node(0, FIRST_PART), NONE);
            due("of a rule alone", oneRule().node(0, FIRST_PART), NONE);
        });
        Words.say(11, "how many parts it has (5)", () -> {
            every("parts", PARTS, 2, 1, 0, 0);
            due("of a variable alone", oneVariable().node(0, PARTS), 0);
            due("of a rule alone", oneRule().node(0, PARTS), 0);
        });
        Words.say(11, "NONE when there is none such", TreeBoundariesTest::noSuchNode);
    }

    private static void noSuchNode() {
        for (int what = 0; what <= 5; what++) {
            int asked = what;
            Twin.refused("before the first", States::open, x -> x.node(-1, asked));
            Twin.refused("behind the last", States::open, x -> x.node(4, asked));
            Twin.refused("MIN", States::open, x -> x.node(MIN, asked));
            Twin.refused("MAX", States::open, x -> x.node(MAX, asked));
            Twin.refused("none was made", States::lists, x -> x.node(0, asked));
            Twin.refused("behind one alone", TreeBoundariesTest::oneRule, x -> x.node(1, asked));
        }
        int[] others = {-1, 6, 7, MIN, MAX};
        for (int what : others) {
            Twin.refused("node(0, " + what + ")", States::open, x -> x.node(0, what));
            Twin.refused("node(3, " + what + ")", States::open, x -> x.node(3, what));
            Twin.refused("node(4, " + what + ")", States::open, x -> x.node(4, what));
        }
        Twin.idle("the last node", States::open, x -> x.node(3, RULE), 2);
        Twin.idle("the last detail", States::open, x -> x.node(0, PARTS), 2);
    }

    private static void told() {
        Words.say(12, "all parts of a node in order before the node itself", () -> {
            int[] want = {2, 1, -11, 0};
            for (int k = 0; k < want.length; k++) {
                int asked = k;
                Twin.idle("told(" + k + ")", States::open, x -> x.told(asked), want[k]);
            }
            due("one rule", oneRule().told(0), 3);
            SyntaxTrees x = longest();
            for (int k = 0; k < 58; k++) {
                due("told(" + k + ")", x.told(k), 0);
            }
            due("the whole at last", x.told(58), 1);
            due("none behind it", x.told(59), NONE);
        });
        Words.say(12, "for a variable -2 - its symbol", () -> {
            due("of the last symbol", oneVariable().told(0), -11);
            SyntaxTrees x = States.constants(1);
            x.symbol(0);
            States.row(x, 1);
            due("make", x.make(0, ANY), 1);
            due("of the least variable", x.told(0), -3);
            x = States.constants(999);
            due("the 1000th symbol", x.symbol(0), 999);
            States.row(x, 999);
            due("make", x.make(0, ANY), 1);
            due("of the greatest variable", x.told(0), -1001);
        });
        Words.say(12, "NONE when there is none such", () -> {
            Twin.refused("before the first", States::open, x -> x.told(-1));
            Twin.refused("behind the last", States::open, x -> x.told(4));
            Twin.refused("MIN", States::open, x -> x.told(MIN));
            Twin.refused("MAX", States::open, x -> x.told(MAX));
            Twin.refused("none was made", States::lists, x -> x.told(0));
            Twin.refused("behind one alone", TreeBoundariesTest::oneRule, x -> x.told(1));
            due("the last", States.open().told(3), 0);
        });
    }

    private static void count() {
        Words.say(13, "How many symbols (what 0)", () -> {
            due("none", States.fresh().count(0), 0);
            due("all", States.constants(1000).count(0), 1000);
            due("constants and variables", States.lists().count(0), 10);
        });
        Words.say(13, "sorts (1)", () -> {
            due("none", States.constants(5).count(1), 0);
            due("all by variables", States.fullOfSorts().count(1), 100);
            due("all by rules", States.fullOfRuledSorts().count(1), 100);
        });
        Words.say(13, "closed rules (2)", () -> {
            due("none", States.fresh().count(2), 0);
            due("all", States.rules(1500).count(2), 1500);
            due("not the open one", States.open().count(2), 4);
        });
        Words.say(13, "symbols of all rules (3; of the open one, too", () -> {
            due("none", States.fresh().count(3), 0);
            due("all", States.ruleSymbols(30000).count(3), 30000);
            due("an open one without symbols", States.begun().count(3), 6);
            due("an open one", States.open().count(3), 9);
        });
        Words.say(13, "of the open one, too, whose sort counts among the sorts", () -> {
            SyntaxTrees x = States.made();
            due("without it", x.count(1), 2);
            due("begin", x.begin(5), 4);
            due("without symbols", x.count(1), 3);
            due("put", x.put(5), 1);
            due("with one", x.count(1), 3);
            due("close", x.close(), 1);
            due("closed", x.count(1), 3);
            x = States.constants(1);
            due("begin", x.begin(0), 0);
            due("the first sort", x.count(1), 1);
        });
        Words.say(13, "symbols of the row (4)", () -> {
            due("none", States.lists().count(4), 0);
            due("five", States.open().count(4), 5);
            due("all", longest().count(4), 59);
        });
        Words.say(13, "nodes of the tree that was made (5)", () -> {
            due("none", States.lists().count(5), 0);
            due("one", oneVariable().count(5), 1);
            due("of a row that is gone", States.open().count(5), 4);
        });
        Words.say(13, "NONE for others", () -> {
            Twin.refused("-1", States::open, x -> x.count(-1));
            Twin.refused("6", States::open, x -> x.count(6));
            Twin.refused("MIN", States::open, x -> x.count(MIN));
            Twin.refused("MAX", States::open, x -> x.count(MAX));
            Twin.refused("6 of a new object", States::fresh, x -> x.count(6));
        });
    }

    private static void check() {
        Words.say(14, "1 (also when there are none)", () -> {
            Twin.idle("a new object", States::fresh, SyntaxTrees::check, 1);
            Twin.idle("rules, but no tree", States::lists, SyntaxTrees::check, 1);
            Twin.idle("a variable alone", TreeBoundariesTest::oneVariable, SyntaxTrees::check, 1);
            Twin.idle("a rule alone", TreeBoundariesTest::oneRule, SyntaxTrees::check, 1);
            Twin.idle("59 nodes", TreeBoundariesTest::longest, SyntaxTrees::check, 1);
        });
        Words.say(14, "in the row that it was made for", () -> {
            Twin.idle("another row", States::open, SyntaxTrees::check, 1);
            SyntaxTrees x = longest();
            due("empty", x.empty(), 59);
            due("an empty row", x.check(), 1);
            States.row(x, 0, 0, 0);
            due("a shorter row", x.check(), 1);
            x = oneVariable();
            due("a longer row", x.add(0), 2);
            due("check", x.check(), 1);
        });
    }
}
