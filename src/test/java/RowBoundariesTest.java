import java.util.function.Supplier;

/** The boundary cases of the row and its trees: the promises 6 to 10, sentence by sentence. */
public final class RowBoundariesTest {
    private static final int NONE = States.NONE;
    private static final int ANY = States.ANY;
    private static final int MIN = States.MIN;
    private static final int MAX = States.MAX;
    private static final int TERMS = Words.TERMS;
    /** No symbols of States.made(): beside the first and the last one, and far off. */
    private static final int[] NO_SYMBOLS = {-1, -2, 10, 11, 1000, MIN, MAX};

    private RowBoundariesTest() {
    }

    public static void main(String[] args) {
        terms();
        add();
        empty();
        trees();
        part();
        make();
        Due.end();
    }

    private static void due(String call, int got, int want) {
        Due.due(call, got, want);
    }

    private static void terms() {
        Words.say(TERMS, "THE ROW at hand has at most 59 symbols",
                RowBoundariesTest::fiftyNineSymbols);
        Words.say(TERMS, "its PLACES are numbered from 0", RowBoundariesTest::places);
        Words.say(TERMS, "a variable alone, of that type", RowBoundariesTest::variableAlone);
        Words.say(TERMS, "with a tree for each of its variables, of its type",
                RowBoundariesTest::partsOfTheirTypes);
        Words.say(TERMS, "each variable replaced by the stretch of its tree, are the stretch",
                RowBoundariesTest::wholeStretch);
        Words.say(TERMS, "Trees may stand in trees without end: then there are more than any number",
                RowBoundariesTest::withoutEnd);
        Words.say(TERMS, "A LIMIT lets only rules count that are numbered below it",
                RowBoundariesTest::limits);
    }

    private static SyntaxTrees fullRow() {
        SyntaxTrees x = States.lists();
        int[] symbols = States.times(59, 2);
        symbols[0] = 3;
        symbols[58] = 9;
        States.row(x, symbols);
        return x;
    }

    private static void fiftyNineSymbols() {
        SyntaxTrees x = fullRow();
        due("symbols", x.count(4), 59);
        due("the first place", x.part(1, ANY, 0, 1), 1);
        due("the last place", x.part(1, ANY, 58, 59), 1);
        Twin.refused("the 60th, a constant", RowBoundariesTest::fullRow, y -> y.add(0));
        Twin.refused("the 60th, a variable", RowBoundariesTest::fullRow, y -> y.add(9));
        Twin.refused("the 60th, no symbol", RowBoundariesTest::fullRow, y -> y.add(10));
        due("empty", x.empty(), 59);
        for (int k = 1; k <= 59; k++) {
            due("add once more", x.add(3), k);
        }
        due("the 60th once more", x.add(3), NONE);
    }

    private static void add() {
        Words.say(6, "One more symbol of the row: how many", () -> {
            SyntaxTrees x = States.lists();
            due("the first symbol", x.add(0), 1);
            due("the last symbol", x.add(9), 2);
            due("a symbol again", x.add(9), 3);
            due("symbols", x.count(4), 3);
        });
        Words.say(6, "NONE when there is no such symbol", () -> {
            for (int wrong : NO_SYMBOLS) {
                Twin.refused("add(" + wrong + ")", States::open, x -> x.add(wrong));
                Twin.refused("add(" + wrong + ") to an empty row", States::lists, x -> x.add(wrong));
            }
            SyntaxTrees x = States.lists();
            due("one more symbol", x.symbol(NONE), 10);
            due("it can be added now", x.add(10), 1);
        });
        Words.say(6, "or there are 59", RowBoundariesTest::fiftyNineSymbols);
    }

    private static void empty() {
        Words.say(7, "The row is empty: how many symbols it had", () -> {
            Twin.idle("a row without symbols", States::lists, SyntaxTrees::empty, 0);
            due("a row of one", rowOf(1).empty(), 1);
            due("a row of 58", rowOf(58).empty(), 58);
            due("a row of 59", rowOf(59).empty(), 59);
            SyntaxTrees x = rowOf(59);
            x.empty();
            due("symbols", x.count(4), 0);
            due("again", x.empty(), 0);
            due("trees", x.trees(0, ANY), 0);
            due("a place", x.part(0, ANY, 0, 1), NONE);
            due("the first again", x.add(8), 1);
            due("its trees", x.trees(1, ANY), 1);
        });
        Words.say(7, "(The only tree that was made stays.)", () -> {
            SyntaxTrees x = States.lists();
            States.row(x, 3, 2, 9);
            due("make", x.make(0, ANY), 4);
            due("empty", x.empty(), 3);
            due("nodes", x.count(5), 4);
            due("its end", x.node(0, 3), 3);
            due("its first rule", x.told(0), 2);
            due("its variable", x.told(2), -11);
            due("check", x.check(), 1);
        });
    }

    /** Lists with a row of as many a. */
    private static SyntaxTrees rowOf(int number) {
        SyntaxTrees x = States.lists();
        States.row(x, States.times(number, 3));
        return x;
    }

    /** Lists with the row 'a, item, b'. */
    private static SyntaxTrees three() {
        SyntaxTrees x = States.lists();
        States.row(x, 3, 2, 8, 2, 4);
        return x;
    }

    private static void trees() {
        Words.say(8, "by rules below a limit (any number)", RowBoundariesTest::limits);
        Words.say(8, "0 (an empty row", () -> {
            Twin.idle("of a sort", States::lists, x -> x.trees(0, ANY), 0);
            Twin.idle("of no sort", States::lists, x -> x.trees(5, ANY), 0);
            Twin.idle("without rules", () -> States.constants(1), x -> x.trees(0, ANY), 0);
            Twin.refused("of no symbol", States::lists, x -> x.trees(10, ANY));
            Twin.refused("of a variable", States::lists, x -> x.trees(9, ANY));
        });
        Words.say(8, "a constant that is no sort)", () -> {
            Twin.idle("in a row", RowBoundariesTest::three, x -> x.trees(5, ANY), 0);
            Twin.idle("a rule's symbol", RowBoundariesTest::three, x -> x.trees(3, ANY), 0);
            Twin.idle("with 100 sorts", States::fullOfSorts, x -> x.trees(100, ANY), 0);
            SyntaxTrees x = States.constants(1);
            due("add", x.add(0), 1);
            due("the row's own symbol", x.trees(0, ANY), 0);
            due("begin", x.begin(0), 0);
            due("a sort of an open rule", x.trees(0, ANY), 0);
            due("put", x.put(0), 1);
            due("a sort of an open rule with symbols", x.trees(0, ANY), 0);
            due("close", x.close(), 1);
            due("a sort of a closed rule", x.trees(0, ANY), 1);
        });
        Words.say(8, "1, 2 for more", RowBoundariesTest::oneTwoMore);
        Words.say(8, "NONE when there is no such symbol", () -> {
            for (int wrong : NO_SYMBOLS) {
                Twin.refused("trees(" + wrong + ", ANY)", States::open, x -> x.trees(wrong, ANY));
            }
            SyntaxTrees x = three();
            due("one more symbol", x.symbol(NONE), 10);
            due("it is one now", x.trees(10, ANY), 0);
        });
        Words.say(8, "or it is no constant", () -> {
            Twin.refused("the first variable", States::open, x -> x.trees(6, ANY));
            Twin.refused("the last variable", States::open, x -> x.trees(9, ANY));
            Twin.refused("with no rules", States::open, x -> x.trees(9, MIN));
            due("the last constant", three().trees(5, ANY), 0);
            due("the first constant", three().trees(0, ANY), 1);
        });
    }

    private static void limits() {
        due("all rules", three().trees(0, 4), 1);
        due("one more than all", three().trees(0, 5), 1);
        due("MAX", three().trees(0, MAX), 1);
        due("without the last rule", three().trees(0, 3), 0);
        due("only the first rule", three().trees(0, 1), 0);
        due("no rule", three().trees(0, 0), 0);
        due("-1", three().trees(0, -1), 0);
        due("MIN", three().trees(0, MIN), 0);
        due("a variable needs no rule", three().part(1, 0, 2, 3), 1);
        due("nor with a limit of -1", three().part(1, -1, 2, 3), 1);
        due("nor with the least limit", three().part(1, MIN, 2, 3), 1);
        due("rule 1 below 2", three().part(0, 2, 2, 3), 1);
        due("rule 1 not below 1", three().part(0, 1, 2, 3), 0);
        due("rule 2 below 3", three().part(1, 3, 0, 1), 1);
        due("rule 2 not below 2", three().part(1, 2, 0, 1), 0);
        due("rule 3 below 4", three().part(1, 4, 4, 5), 1);
        due("rule 3 not below 3", three().part(1, 3, 4, 5), 0);
        due("make below 4", three().make(0, 4), 6);
        due("make below MAX", three().make(0, MAX), 6);
        Twin.refused("make below 3", RowBoundariesTest::three, x -> x.make(0, 3));
        Twin.refused("make below MIN", RowBoundariesTest::three, x -> x.make(0, MIN));
        SyntaxTrees x = three();
        States.rule(x, 1, 3);
        due("a second rule at the end", x.trees(0, 5), 2);
        due("a limit before it", x.trees(0, 4), 1);
        due("make with it", x.make(0, 5), NONE);
        due("make without it", x.make(0, 4), 6);
    }

    private static void oneTwoMore() {
        SyntaxTrees x = States.rules(4);
        States.row(x, 1);
        due("no tree", x.trees(0, 0), 0);
        due("one tree", x.trees(0, 1), 1);
        due("two trees", x.trees(0, 2), 2);
        due("three trees", x.trees(0, 3), 2);
        due("four trees", x.trees(0, 4), 2);
        SyntaxTrees pairs = pairs();
        int[] catalan = {1, 1, 2, 2, 2};
        for (int k = 0; k < catalan.length; k++) {
            due("pairs of " + (k + 1), pairs.part(0, ANY, 0, k + 1), catalan[k]);
        }
        due("more than a long can count", pairs.trees(0, ANY), 2);
        manyTimes();
    }

    /** The sort 0 is two of itself, or the constant 1; a row of 59 of these. */
    private static SyntaxTrees pairs() {
        SyntaxTrees x = States.constants(2);
        x.symbol(0);
        x.symbol(0);
        States.rule(x, 0, 2, 3);
        States.rule(x, 0, 1);
        States.row(x, States.times(59, 1));
        return x;
    }

    /** 2 to the power of 32 and of 64 trees, which an int or a long would count as 0. */
    private static void manyTimes() {
        SyntaxTrees x = States.constants(3);
        x.symbol(0);
        x.symbol(2);
        States.rule(x, 0, 1);
        States.rule(x, 0, 1);
        States.rule(x, 2, 3);
        States.rule(x, 2, 3, 4);
        States.row(x, States.times(59, 1));
        due("2 to the 1", x.part(2, ANY, 0, 1), 2);
        due("2 to the 31", x.part(2, ANY, 0, 31), 2);
        due("2 to the 32", x.part(2, ANY, 0, 32), 2);
        due("2 to the 33", x.part(2, ANY, 0, 33), 2);
        due("2 to the 59", x.trees(2, ANY), 2);
        States.rule(x, 0, 1);
        States.rule(x, 0, 1);
        due("4 to the 16", x.part(2, ANY, 0, 16), 2);
        due("4 to the 32", x.part(2, ANY, 0, 32), 2);
        due("4 to the 59", x.trees(2, ANY), 2);
        due("1 to the 59", x.trees(2, 1), 0);
    }

    private static void withoutEnd() {
        SyntaxTrees x = States.constants(3);
        x.symbol(0);
        x.symbol(1);
        States.rule(x, 0, 3);
        States.row(x, 2);
        due("a sort of itself, without a tree", x.trees(0, ANY), 0);
        States.row(x, 3);
        due("a sort of itself", x.trees(0, ANY), 2);
        due("below its rule", x.trees(0, 0), 1);
        due("make it", x.make(0, ANY), NONE);
        due("make it below its rule", x.make(0, 0), 1);
        States.rule(x, 1, 2);
        States.rule(x, 1, 3);
        due("a circle in a tree", x.trees(1, ANY), 2);
        States.row(x, 2);
        due("a circle beside a tree", x.trees(1, ANY), 1);
        due("make it", x.make(1, ANY), 1);
        States.rule(x, 0, 4);
        due("a circle of two", x.trees(1, ANY), 2);
        due("from its other side", x.trees(0, ANY), 2);
        due("below what closes it", x.trees(1, 3), 1);
        due("make a circle", x.make(0, ANY), NONE);
        due("what was made", x.count(5), 1);
        longestCircle();
    }

    /** A circle of all 100 sorts, each a rule from the next one, that a variable stands in. */
    private static void longestCircle() {
        SyntaxTrees x = States.fullOfSorts();
        for (int sort = 0; sort < 100; sort++) {
            States.rule(x, sort, 102 + (sort + 1) % 100);
        }
        States.row(x, 102);
        due("the variable's sort in the circle", x.trees(0, ANY), 2);
        due("the sort behind it", x.trees(1, ANY), 2);
        due("the farthest sort below the last rule", x.trees(1, 99), 0);
        due("the nearest sort below the last rule", x.trees(99, 99), 0);
        due("without the last rule", x.trees(0, 99), 1);
        States.row(x, 201);
        due("one rule short of the circle", x.trees(0, 99), 1);
        due("its nodes", x.make(0, 99), 100);
        due("with the circle", x.trees(0, 100), 2);
        States.row(x, 100);
        due("no tree in it", x.trees(0, ANY), 0);
    }

    private static void variableAlone() {
        SyntaxTrees x = States.lists();
        States.row(x, 8, 9);
        due("two of them", x.trees(1, ANY), 0);
        due("the first", x.part(1, 0, 0, 1), 1);
        due("the second", x.part(1, 0, 1, 2), 1);
        due("of another type", x.part(0, 0, 0, 1), 0);
        due("of another type by a rule", x.part(0, 2, 0, 1), 1);
        States.row(x, 1);
        due("the type itself", x.trees(1, ANY), 0);
        States.row(x, 6);
        due("the other way there is no rule", x.trees(1, ANY), 0);
    }

    private static void partsOfTheirTypes() {
        SyntaxTrees x = States.lists();
        States.row(x, 6, 2, 8);
        due("list comma item", x.trees(0, ANY), 1);
        States.row(x, 7, 2, 9);
        due("by other variables than the rule's", x.trees(0, 1), 1);
        States.row(x, 8, 2, 8);
        due("item comma item", x.trees(0, ANY), 1);
        due("item comma item without the rule between", x.trees(0, 1), 0);
        States.row(x, 6, 2, 6);
        due("list comma list", x.trees(0, ANY), 0);
        States.row(x, 0, 2, 1);
        due("types for variables", x.trees(0, ANY), 0);
    }

    private static void wholeStretch() {
        SyntaxTrees x = three();
        due("all", x.trees(0, ANY), 1);
        due("one place less at the end", x.part(0, ANY, 0, 4), 0);
        due("one place less at the beginning", x.part(0, ANY, 1, 5), 0);
        due("a comma alone", x.part(0, ANY, 1, 2), 0);
        States.row(x, 3, 2);
        due("nothing for the last variable", x.trees(0, ANY), 0);
        States.row(x, 2, 3);
        due("nothing for the first variable", x.trees(0, ANY), 0);
        States.row(x, 3, 3);
        due("nothing for the comma", x.trees(0, ANY), 0);
        longestRule();
    }

    private static void longestRule() {
        SyntaxTrees x = States.constants(2);
        States.rule(x, 0, States.times(60, 1));
        States.rule(x, 0, States.times(299, 1));
        States.row(x, States.times(59, 1));
        due("rules longer than the row", x.trees(0, ANY), 0);
        States.rule(x, 0, States.times(59, 1));
        due("a rule as long as the row", x.trees(0, ANY), 1);
        due("its node", x.make(0, ANY), 1);
        due("its end", x.node(0, 3), 59);
        due("one place less", x.part(0, ANY, 0, 58), 0);
    }

    private static void part() {
        Words.say(9, "the stretch from one place up to another one (not with it)",
                RowBoundariesTest::places);
        Words.say(9, "NONE likewise", () -> {
            for (int wrong : NO_SYMBOLS) {
                Twin.refused("part(" + wrong + ", ..)", States::open, x -> x.part(wrong, 9, 0, 1));
            }
            Twin.refused("the first variable", States::open, x -> x.part(6, ANY, 0, 1));
            Twin.refused("the last variable", States::open, x -> x.part(9, ANY, 0, 1));
            Twin.idle("a constant that is no sort", States::open, x -> x.part(5, ANY, 0, 1), 0);
            due("the last constant but one", three().part(4, ANY, 0, 1), 0);
            due("the first constant", three().part(0, ANY, 0, 1), 1);
        });
        Words.say(9, "or when from is not below to", () -> {
            due("from one below to", three().part(0, ANY, 2, 3), 1);
            Twin.refused("from = to", States::made, x -> x.part(0, ANY, 2, 2));
            Twin.refused("0 to 0", States::made, x -> x.part(0, ANY, 0, 0));
            Twin.refused("the row's length twice", States::made, x -> x.part(0, ANY, 5, 5));
            Twin.refused("from above to", States::made, x -> x.part(0, ANY, 3, 2));
            Twin.refused("the whole backwards", States::made, x -> x.part(0, ANY, 5, 0));
            Twin.refused("MAX to MIN", States::made, x -> x.part(0, ANY, MAX, MIN));
            Twin.refused("of no sort", States::made, x -> x.part(5, ANY, 2, 2));
            Twin.refused("an empty row", States::lists, x -> x.part(0, ANY, 0, 0));
        });
        Words.say(9, "or there are no such places (to may be the row's length)",
                RowBoundariesTest::noSuchPlaces);
    }

    private static void noSuchPlaces() {
        due("to the row's length", three().part(0, ANY, 0, 5), 1);
        due("the last place", three().part(0, ANY, 4, 5), 1);
        Twin.refused("to one more", States::made, x -> x.part(0, ANY, 0, 6));
        Twin.refused("behind the row", States::made, x -> x.part(0, ANY, 5, 6));
        Twin.refused("from -1", States::made, x -> x.part(0, ANY, -1, 1));
        Twin.refused("-1 to 0", States::made, x -> x.part(0, ANY, -1, 0));
        Twin.refused("-2 to -1", States::made, x -> x.part(0, ANY, -2, -1));
        Twin.refused("to MAX", States::made, x -> x.part(0, ANY, 0, MAX));
        Twin.refused("from MIN", States::made, x -> x.part(0, ANY, MIN, 1));
        Twin.refused("MIN to MAX", States::made, x -> x.part(0, ANY, MIN, MAX));
        Twin.refused("of no sort", States::made, x -> x.part(5, ANY, 0, 6));
        Twin.refused("an empty row's first", States::lists, x -> x.part(0, ANY, 0, 1));
        Twin.refused("a place of the row before", RowBoundariesTest::emptied,
                x -> x.part(0, ANY, 0, 1));
        due("to 59", fullRow().part(1, ANY, 58, 59), 1);
        Twin.refused("to 60", RowBoundariesTest::fullRow, x -> x.part(1, ANY, 58, 60));
        Twin.refused("from 59", RowBoundariesTest::fullRow, x -> x.part(1, ANY, 59, 60));
    }

    private static SyntaxTrees emptied() {
        SyntaxTrees x = three();
        due("empty", x.empty(), 5);
        return x;
    }

    private static void places() {
        SyntaxTrees x = three();
        due("the first place", x.part(1, ANY, 0, 1), 1);
        due("the second place", x.part(1, ANY, 1, 2), 0);
        due("the third place", x.part(1, ANY, 2, 3), 1);
        due("the first three", x.part(0, ANY, 0, 3), 1);
        due("the last three", x.part(0, ANY, 2, 5), 1);
        due("all but the last", x.part(0, ANY, 0, 4), 0);
        due("all but the first", x.part(0, ANY, 1, 5), 0);
        due("all", x.part(0, ANY, 0, 5), 1);
        due("all as trees", x.trees(0, ANY), 1);
        due("make", x.make(0, ANY), 6);
        due("its first place", x.node(0, 2), 0);
        due("behind its last place", x.node(0, 3), 5);
    }

    private static void make() {
        Words.say(10, "how many nodes it has", () -> {
            due("a variable alone", alone(8).make(1, 0), 1);
            due("a rule without variables", alone(3).make(1, ANY), 1);
            due("a rule of a variable", alone(8).make(0, ANY), 2);
            due("a list of three", three().make(0, ANY), 6);
            SyntaxTrees x = three();
            due("made", x.make(0, ANY), 6);
            due("and counted", x.count(5), 6);
            due("made again", x.make(0, ANY), 6);
            due("and counted again", x.count(5), 6);
        });
        Words.say(10, "NONE, and what was made stays, when there is not just one",
                RowBoundariesTest::notJustOne);
        Words.say(10, "or as for trees()", () -> {
            for (int wrong : NO_SYMBOLS) {
                Twin.refused("make(" + wrong + ", ANY)", States::open, x -> x.make(wrong, ANY));
            }
            Twin.refused("the first variable", States::open, x -> x.make(6, ANY));
            Twin.refused("the last variable", States::open, x -> x.make(9, ANY));
            Twin.refused("no symbol, an empty row", States::lists, x -> x.make(10, ANY));
        });
    }

    /** Lists with a row of one symbol. */
    private static SyntaxTrees alone(int symbol) {
        SyntaxTrees x = States.lists();
        States.row(x, symbol);
        return x;
    }

    private static void notJustOne() {
        Twin.refused("none", States::made, x -> x.make(0, ANY));
        Twin.refused("none, with an open rule", States::open, x -> x.make(0, ANY));
        Twin.refused("none of a constant that is no sort", States::made, x -> x.make(5, ANY));
        Twin.refused("none in an empty row", States::lists, x -> x.make(0, ANY));
        Supplier<SyntaxTrees> emptied = () -> {
            SyntaxTrees x = States.made();
            x.empty();
            return x;
        };
        Twin.refused("none in an empty row, one was made", emptied, x -> x.make(0, ANY));
        Supplier<SyntaxTrees> two = () -> {
            SyntaxTrees x = States.made();
            States.rule(x, 1, 3);
            States.row(x, 3);
            return x;
        };
        Twin.refused("two", two, x -> x.make(1, ANY));
        Twin.refused("two in one", two, x -> x.make(0, ANY));
        due("one of these", two.get().make(0, 4), 2);
        Supplier<SyntaxTrees> endless = () -> {
            SyntaxTrees x = States.made();
            States.rule(x, 1, 6);
            States.row(x, 9);
            return x;
        };
        Twin.refused("more than any number", endless, x -> x.make(1, ANY));
        due("one of these", endless.get().make(1, 4), 1);
        SyntaxTrees x = States.made();
        due("the one that was made", x.count(5), 4);
        States.row(x, 9);
        due("another one", x.make(1, ANY), 1);
        due("in its place", x.count(5), 1);
        due("its nodes are gone", x.node(1, 1), NONE);
        due("its last told is gone", x.told(3), NONE);
    }
}
