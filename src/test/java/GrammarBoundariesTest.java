import java.util.function.Supplier;

/** The boundary cases of symbols and rules: the promises 1 to 5, sentence by sentence. */
public final class GrammarBoundariesTest {
    private static final int NONE = States.NONE;
    private static final int ANY = States.ANY;
    private static final int MIN = States.MIN;
    private static final int MAX = States.MAX;
    private static final int TERMS = Words.TERMS;

    private GrammarBoundariesTest() {
    }

    public static void main(String[] args) {
        whatItIs();
        terms();
        newObject();
        symbol();
        begin();
        put();
        close();
        Due.end();
    }

    private static void due(String call, int got, int want) {
        Due.due(call, got, want);
    }

    private static void whatItIs() {
        Words.say(Words.WHAT_IT_IS, "at most 512 calls after it has been made", () -> {
            SyntaxTrees x = States.fresh();
            for (int call = 1; call < 512; call++) {
                due("call " + call, refusedCall(x, call), NONE);
            }
            due("the last call", x.symbol(NONE), 0);
        });
    }

    /** A call that has to answer NONE as long as there are no symbols. */
    private static int refusedCall(SyntaxTrees x, int call) {
        switch (call % 8) {
            case 0:
                return x.symbol(call);
            case 1:
                return x.begin(call - 512);
            case 2:
                return x.put(call);
            case 3:
                return x.add(call);
            case 4:
                return x.trees(call, call);
            case 5:
                return x.part(0, call, 0, call);
            case 6:
                return x.make(0, call);
            default:
                return x.node(0, call);
        }
    }

    private static void terms() {
        Words.say(TERMS, "`NONE = -1`", () -> due("NONE", NONE, -1));
        Words.say(TERMS, "SYMBOLS are numbered from 0, 1000 at most",
                GrammarBoundariesTest::symbolNumbers);
        Words.say(TERMS, "VARIABLES, each with a type, which is a constant",
                GrammarBoundariesTest::typeIsNoConstant);
        Words.say(TERMS, "SORTS are constants that are types of variables, or that rules make",
                GrammarBoundariesTest::becomingSorts);
        Words.say(TERMS, "100 at most", GrammarBoundariesTest::sortsOfBothKinds);
        Words.say(TERMS, "RULES are numbered from 0, 1500 at most",
                GrammarBoundariesTest::ruleNumbers);
        Words.say(TERMS, "of 30000 symbols together at most",
                GrammarBoundariesTest::symbolsOfAllRules);
        Words.say(TERMS, "a row of 1 to 299 symbols", GrammarBoundariesTest::shortestAndLongest);
        Words.say(TERMS, "no variable twice", GrammarBoundariesTest::variableTwice);
        Words.say(TERMS, "one rule at a time", GrammarBoundariesTest::oneIsOpen);
        Words.say(TERMS, "open ones don't count", GrammarBoundariesTest::openOneDoesNotCount);
    }

    private static void newObject() {
        Words.say(1, "No symbols", () -> {
            due("count(0)", States.fresh().count(0), 0);
            due("count(1)", States.fresh().count(1), 0);
            Twin.refused("symbol(0)", States::fresh, x -> x.symbol(0));
            Twin.refused("begin(0)", States::fresh, x -> x.begin(0));
            Twin.refused("put(0)", States::fresh, x -> x.put(0));
            Twin.refused("add(0)", States::fresh, x -> x.add(0));
            Twin.refused("trees(0, ANY)", States::fresh, x -> x.trees(0, ANY));
            Twin.refused("part(0, ANY, 0, 1)", States::fresh, x -> x.part(0, ANY, 0, 1));
            Twin.refused("make(0, ANY)", States::fresh, x -> x.make(0, ANY));
        });
        Words.say(1, "no rules", () -> {
            due("count(2)", States.fresh().count(2), 0);
            due("count(3)", States.fresh().count(3), 0);
            Twin.idle("close()", States::fresh, SyntaxTrees::close, 0);
        });
        Words.say(1, "an empty row", () -> {
            due("count(4)", States.fresh().count(4), 0);
            Twin.idle("empty()", States::fresh, SyntaxTrees::empty, 0);
        });
        Words.say(1, "A new object", () -> {
            due("count(5)", States.fresh().count(5), 0);
            Twin.refused("node(0, 0)", States::fresh, x -> x.node(0, 0));
            Twin.refused("told(0)", States::fresh, x -> x.told(0));
            Twin.idle("check()", States::fresh, SyntaxTrees::check, 1);
            SyntaxTrees used = States.open();
            States.counts(States.fresh(), 0, 0, 0, 0, 0, 0);
            States.counts(used, 10, 2, 4, 9, 5, 4);
        });
    }

    private static void symbol() {
        Words.say(2, "a constant (type NONE)", () -> {
            SyntaxTrees x = States.fresh();
            due("the first", x.symbol(NONE), 0);
            due("the second", x.symbol(-1), 1);
            States.counts(x, 2, 0);
            due("it is a constant", x.trees(1, ANY), 0);
        });
        Words.say(2, "a variable of a type: its number", () -> {
            SyntaxTrees x = States.constants(2);
            due("of the last symbol", x.symbol(1), 2);
            due("of the first symbol", x.symbol(0), 3);
            States.counts(x, 4, 2);
            due("it is no constant", x.trees(3, ANY), NONE);
        });
        Words.say(2, "NONE when the type is no constant", GrammarBoundariesTest::typeIsNoConstant);
        Words.say(2, "there are 1000 symbols", GrammarBoundariesTest::thousandSymbols);
        Words.say(2, "there would be more than 100 sorts", () -> {
            SyntaxTrees x = States.constants(102);
            for (int sort = 0; sort < 100; sort++) {
                due("the sort " + sort, x.symbol(101 - sort), 102 + sort);
                due("sorts", x.count(1), sort + 1);
            }
            due("of a sort that is there", x.symbol(101), 202);
            due("a constant", x.symbol(NONE), 203);
            Twin.refused("the 101st by variables", States::fullOfSorts, y -> y.symbol(100));
            Twin.refused("another 101st", States::fullOfSorts, y -> y.symbol(101));
            Twin.refused("the 101st by rules", States::fullOfRuledSorts, y -> y.symbol(100));
        });
    }

    private static void symbolNumbers() {
        SyntaxTrees x = States.fresh();
        for (int k = 0; k < 1000; k++) {
            due("symbol", x.symbol(k % 3 == 2 ? 0 : NONE), k);
        }
        due("one more", x.symbol(NONE), NONE);
        due("symbols", x.count(0), 1000);
    }

    private static void typeIsNoConstant() {
        Twin.refused("a variable", States::open, x -> x.symbol(6));
        Twin.refused("the last variable", States::open, x -> x.symbol(9));
        Twin.refused("the number it would get", States::open, x -> x.symbol(10));
        Twin.refused("-2", States::open, x -> x.symbol(-2));
        Twin.refused("1000", States::open, x -> x.symbol(1000));
        Twin.refused("MIN", States::open, x -> x.symbol(MIN));
        Twin.refused("MAX", States::open, x -> x.symbol(MAX));
        due("the last constant", States.open().symbol(5), 10);
        due("the first constant", States.open().symbol(0), 10);
    }

    private static void thousandSymbols() {
        Supplier<SyntaxTrees> full = () -> States.constants(1000);
        due("the 1000th, a constant", States.constants(999).symbol(NONE), 999);
        due("the 1000th, a variable", States.constants(999).symbol(998), 999);
        Twin.refused("the 1001st, a constant", full, x -> x.symbol(NONE));
        Twin.refused("the 1001st, of what is no sort yet", full, x -> x.symbol(999));
        Twin.refused("the 1001st, of a wrong type", full, x -> x.symbol(1000));
        SyntaxTrees x = States.constants(999);
        due("the last", x.symbol(998), 999);
        due("one more of the same type", x.symbol(998), NONE);
        due("the last in the row", x.add(999), 1);
        due("none behind it", x.add(1000), NONE);
        due("its tree", x.trees(998, ANY), 1);
    }

    private static void becomingSorts() {
        SyntaxTrees x = States.constants(3);
        due("none", x.count(1), 0);
        due("a variable", x.symbol(0), 3);
        due("its type", x.count(1), 1);
        due("one more", x.symbol(0), 4);
        due("its type again", x.count(1), 1);
        due("a rule of that type", x.begin(0), 0);
        due("is no sort more", x.count(1), 1);
        States.puts(x, 1);
        due("close", x.close(), 1);
        due("a rule of another constant", x.begin(2), 1);
        due("makes it a sort", x.count(1), 2);
        due("a variable of that sort", x.symbol(2), 5);
        due("is no sort more", x.count(1), 2);
        due("a constant in a rule", x.put(1), 1);
        due("is no sort", x.count(1), 2);
    }

    /** 50 sorts by variables, 50 by rules, and the rules' number is not that of the sorts. */
    private static SyntaxTrees mixedSorts() {
        SyntaxTrees x = States.constants(101);
        for (int sort = 0; sort < 100; sort += 2) {
            due("symbol(" + sort + ")", x.symbol(sort), 101 + sort / 2);
            States.rule(x, sort + 1, 100);
        }
        return x;
    }

    private static void sortsOfBothKinds() {
        due("sorts", mixedSorts().count(1), 100);
        Twin.refused("one more by a variable", GrammarBoundariesTest::mixedSorts,
                x -> x.symbol(100));
        Twin.refused("one more by a rule", GrammarBoundariesTest::mixedSorts, x -> x.begin(100));
        due("a variable of one by a rule", mixedSorts().symbol(99), 151);
        due("a rule of one by a variable", mixedSorts().begin(98), 50);
        due("trees of none", mixedSorts().trees(100, ANY), 0);
    }

    private static void begin() {
        Words.say(3, "One more rule, open, that makes a sort: its number", () -> {
            SyntaxTrees x = States.constants(2);
            due("of the last constant", x.begin(1), 0);
            States.puts(x, 0);
            due("close", x.close(), 1);
            due("of the first constant", x.begin(0), 1);
            States.counts(x, 2, 2, 1, 1);
        });
        Words.say(3, "NONE when one is open", GrammarBoundariesTest::oneIsOpen);
        Words.say(3, "sort is no constant", () -> {
            Twin.refused("the first variable", States::made, x -> x.begin(6));
            Twin.refused("the last variable", States::made, x -> x.begin(9));
            Twin.refused("behind all symbols", States::made, x -> x.begin(10));
            Twin.refused("NONE", States::made, x -> x.begin(NONE));
            Twin.refused("-2", States::made, x -> x.begin(-2));
            Twin.refused("1000", States::made, x -> x.begin(1000));
            Twin.refused("MIN", States::made, x -> x.begin(MIN));
            Twin.refused("MAX", States::made, x -> x.begin(MAX));
            due("the last constant", States.made().begin(5), 4);
            due("the first constant", States.made().begin(0), 4);
        });
        Words.say(3, "there are 1500", () -> {
            due("the 1500th", States.rules(1499).begin(0), 1499);
            Twin.refused("the 1501st", () -> States.rules(1500), x -> x.begin(0));
            Twin.refused("of what is no sort", () -> States.rules(1500), x -> x.begin(2));
        });
        Words.say(3, "there would be more than 100 sorts", () -> {
            SyntaxTrees x = States.constants(102);
            for (int sort = 0; sort < 100; sort++) {
                States.rule(x, 101 - sort, 0);
                due("sorts", x.count(1), sort + 1);
            }
            due("of a sort that is there", x.begin(101), 100);
            Twin.refused("the 101st by rules", States::fullOfRuledSorts, y -> y.begin(100));
            Twin.refused("the 101st by variables", States::fullOfSorts, y -> y.begin(100));
        });
    }

    private static void ruleNumbers() {
        SyntaxTrees x = States.rules(0);
        for (int k = 0; k < 1500; k++) {
            due("begin", x.begin(0), k);
            due("put", x.put(1), 1);
            due("close", x.close(), 1);
        }
        due("one more", x.begin(0), NONE);
        due("a symbol for it", x.put(1), NONE);
        due("its end", x.close(), 0);
        States.counts(x, 3, 1, 1500, 1500);
    }

    private static void oneIsOpen() {
        Twin.refused("of the same sort", States::open, x -> x.begin(1));
        Twin.refused("of another sort", States::open, x -> x.begin(0));
        Twin.refused("of what is no sort", States::open, x -> x.begin(5));
        Twin.refused("of a variable", States::open, x -> x.begin(6));
        Twin.refused("behind one without symbols", States::begun, x -> x.begin(1));
        Twin.refused("of what is no sort, behind one without symbols", States::begun,
                x -> x.begin(5));
        SyntaxTrees x = States.open();
        due("close", x.close(), 1);
        due("the next", x.begin(5), 5);
        due("closed rules", x.count(2), 5);
    }

    private static void put() {
        Words.say(4, "The open rule has one symbol more: how many", () -> {
            SyntaxTrees x = States.begun();
            due("the first symbol", x.put(0), 1);
            due("the last symbol", x.put(9), 2);
            due("the symbols of all rules", x.count(3), 8);
        });
        Words.say(4, "NONE when none is open", () -> {
            Twin.refused("a constant", States::made, x -> x.put(0));
            Twin.refused("a variable", States::made, x -> x.put(9));
            Twin.refused("no symbol", States::made, x -> x.put(10));
            Twin.refused("no rule at all", () -> States.constants(1), x -> x.put(0));
        });
        Words.say(4, "there is no such symbol", () -> {
            Twin.refused("behind all", States::open, x -> x.put(10));
            Twin.refused("NONE", States::open, x -> x.put(NONE));
            Twin.refused("-2", States::open, x -> x.put(-2));
            Twin.refused("1000", States::open, x -> x.put(1000));
            Twin.refused("MIN", States::open, x -> x.put(MIN));
            Twin.refused("MAX", States::open, x -> x.put(MAX));
            Twin.refused("as the first one", States::begun, x -> x.put(10));
            SyntaxTrees x = States.open();
            due("one more symbol", x.symbol(NONE), 10);
            due("it can be put now", x.put(10), 4);
        });
        Words.say(4, "the rule has that variable already", GrammarBoundariesTest::variableTwice);
        Words.say(4, "there would be too many symbols", () -> {
            shortestAndLongest();
            symbolsOfAllRules();
        });
    }

    private static void variableTwice() {
        Twin.refused("the variable again", States::open, x -> x.put(6));
        due("another one of its type", States.open().put(7), 4);
        due("one of another type", States.open().put(8), 4);
        due("a constant again", States.open().put(4), 4);
        due("its type", States.open().put(0), 4);
        Supplier<SyntaxTrees> firstAndLast = () -> {
            SyntaxTrees x = States.begun();
            States.puts(x, 8, 4, 4, 7);
            return x;
        };
        Twin.refused("the first again", firstAndLast, x -> x.put(8));
        Twin.refused("the last again", firstAndLast, x -> x.put(7));
        SyntaxTrees x = States.open();
        due("close", x.close(), 1);
        due("begin", x.begin(1), 5);
        due("a variable of the rule before", x.put(6), 1);
    }

    /** A rule of the sort 0, open, that has as many symbols, the first of them a variable. */
    private static SyntaxTrees openWith(int number) {
        SyntaxTrees x = States.constants(3);
        due("symbol", x.symbol(0), 3);
        due("begin", x.begin(0), 0);
        int[] symbols = States.times(number, 1);
        symbols[0] = 3;
        States.puts(x, symbols);
        return x;
    }

    private static void shortestAndLongest() {
        Twin.idle("close() without symbols", States::begun, SyntaxTrees::close, 0);
        due("close() with one", openWith(1).close(), 1);
        due("the 299th, a constant", openWith(298).put(1), 299);
        Twin.refused("the 300th, a constant", () -> openWith(299), x -> x.put(1));
        Twin.refused("the 300th, the variable", () -> openWith(299), x -> x.put(3));
        Twin.refused("the 300th, no symbol", () -> openWith(299), x -> x.put(4));
        SyntaxTrees x = openWith(299);
        due("close() with 299", x.close(), 1);
        due("the next", x.begin(0), 1);
        due("has room again", x.put(1), 1);
    }

    private static void symbolsOfAllRules() {
        SyntaxTrees x = States.ruleSymbols(29999);
        due("symbols", x.count(3), 29999);
        due("begin", x.begin(0), x.count(2));
        due("the 30000th", x.put(1), 1);
        due("the 30001st", x.put(1), NONE);
        due("symbols", x.count(3), 30000);
        due("close", x.close(), 1);
        Supplier<SyntaxTrees> full = () -> {
            SyntaxTrees y = States.ruleSymbols(29998);
            due("begin", y.begin(0), y.count(2));
            States.puts(y, 2, 2);
            return y;
        };
        Twin.refused("the 30001st in an open rule", full, y -> y.put(1));
        Supplier<SyntaxTrees> begun = () -> {
            SyntaxTrees y = States.ruleSymbols(30000);
            due("begin", y.begin(0), y.count(2));
            return y;
        };
        Twin.refused("the 30001st in one without symbols", begun, y -> y.put(1));
        Twin.idle("which can't be closed", begun, SyntaxTrees::close, 0);
        due("but can be begun", States.ruleSymbols(30000).begin(2), 101);
    }

    private static void close() {
        Words.say(5, "The open rule is closed: 1", () -> {
            SyntaxTrees x = States.begun();
            due("put", x.put(2), 1);
            due("close with one symbol", x.close(), 1);
            States.counts(x, 10, 2, 5, 7);
            due("it counts", x.part(1, ANY, 1, 2), 1);
            due("close with more", States.open().close(), 1);
        });
        Words.say(5, "0, and nothing is done, when none is open", () -> {
            Twin.idle("behind a closed one", States::made, SyntaxTrees::close, 0);
            Twin.idle("without rules", () -> States.constants(2), SyntaxTrees::close, 0);
            Twin.idle("with all rules", () -> States.rules(1500), SyntaxTrees::close, 0);
            SyntaxTrees x = States.open();
            due("close", x.close(), 1);
            due("close again", x.close(), 0);
            due("rules", x.count(2), 5);
        });
        Words.say(5, "or it has no symbols", () -> {
            Twin.idle("a later rule", States::begun, SyntaxTrees::close, 0);
            Supplier<SyntaxTrees> first = () -> {
                SyntaxTrees x = States.constants(1);
                due("begin", x.begin(0), 0);
                return x;
            };
            Twin.idle("the first rule", first, SyntaxTrees::close, 0);
            SyntaxTrees x = first.get();
            due("close", x.close(), 0);
            due("it stays open", x.put(0), 1);
            due("close", x.close(), 1);
        });
    }

    private static void openOneDoesNotCount() {
        SyntaxTrees x = States.begun();
        States.puts(x, 2);
        due("closed rules", x.count(2), 4);
        due("trees by it", x.part(1, ANY, 1, 2), 0);
        due("trees below a limit behind it", x.part(1, 5, 1, 2), 0);
        due("close", x.close(), 1);
        due("closed rules", x.count(2), 5);
        due("trees by it", x.part(1, ANY, 1, 2), 1);
        due("trees below a limit behind it", x.part(1, 5, 1, 2), 1);
        due("trees below itself", x.part(1, 4, 1, 2), 0);
    }
}
