/** Each promise of the document by itself: ordinary inputs, its edges, wrong inputs. */
public final class PromisesTest {
    private static final int NONE = SyntaxTrees.NONE;
    private static final int ANY = Integer.MAX_VALUE;
    private static final int[] NO_SYMBOLS = {-1, -2, 1000, Integer.MAX_VALUE, Integer.MIN_VALUE};

    private PromisesTest() {
    }

    public static void main(String[] args) {
        promise1();
        promise2();
        promise3();
        promise4();
        promise5();
        promise6();
        promise7();
        promise8();
        promise8WithoutEnd();
        promise8Several();
        promise9();
        promise10();
        promise11();
        promise12();
        promise13();
        promise14();
        Due.end();
    }

    private static void due(String call, int got, int want) {
        Due.due(call, got, want);
    }

    private static void counts(String when, SyntaxTrees x, int... want) {
        for (int what = 0; what < want.length; what++) {
            due(when + ": count(" + what + ")", x.count(what), want[what]);
        }
    }

    private static void rule(SyntaxTrees x, int number, int sort, int... symbols) {
        due("begin(" + sort + ")", x.begin(sort), number);
        for (int k = 0; k < symbols.length; k++) {
            due("put(" + symbols[k] + ")", x.put(symbols[k]), k + 1);
        }
        due("close()", x.close(), 1);
    }

    private static void row(SyntaxTrees x, int... symbols) {
        x.empty();
        for (int k = 0; k < symbols.length; k++) {
            due("add(" + symbols[k] + ")", x.add(symbols[k]), k + 1);
        }
    }

    /** Constants 0 to below the number. */
    private static SyntaxTrees withConstants(int number) {
        SyntaxTrees x = new SyntaxTrees();
        for (int k = 0; k < number; k++) {
            due("symbol(NONE)", x.symbol(NONE), k);
        }
        return x;
    }

    private static void promise1() {
        due("NONE", NONE, -1);
        SyntaxTrees x = new SyntaxTrees();
        counts("new", x, 0, 0, 0, 0, 0, 0);
        due("put(0)", x.put(0), NONE);
        due("close()", x.close(), 0);
        due("empty()", x.empty(), 0);
        due("told(0)", x.told(0), NONE);
        due("node(0, 5)", x.node(0, 5), NONE);
        due("check()", x.check(), 1);
    }

    private static void promise2() {
        SyntaxTrees x = new SyntaxTrees();
        due("symbol(0) without symbols", x.symbol(0), NONE);
        due("symbol(NONE)", x.symbol(NONE), 0);
        due("symbol(0)", x.symbol(0), 1);
        due("symbol of a variable", x.symbol(1), NONE);
        due("symbol of its own number", x.symbol(2), NONE);
        due("symbol(-2)", x.symbol(-2), NONE);
        due("symbol(MIN)", x.symbol(Integer.MIN_VALUE), NONE);
        due("symbol(MAX)", x.symbol(Integer.MAX_VALUE), NONE);
        due("symbol(0) again", x.symbol(0), 2);
        due("symbol(NONE) again", x.symbol(NONE), 3);
        counts("symbols", x, 4, 1, 0, 0, 0, 0);
    }

    private static void promise3() {
        SyntaxTrees x = withConstants(3);
        due("variable", x.symbol(0), 3);
        for (int wrong : NO_SYMBOLS) {
            due("begin(" + wrong + ")", x.begin(wrong), NONE);
        }
        due("begin(4)", x.begin(4), NONE);
        due("begin of a variable", x.begin(3), NONE);
        counts("wrong begins", x, 4, 1, 0, 0);
        due("begin(1)", x.begin(1), 0);
        counts("begun", x, 4, 2, 0, 0);
        due("begin while one is open", x.begin(2), NONE);
        counts("begun twice", x, 4, 2, 0, 0);
        x.put(2);
        x.close();
        due("begin the next", x.begin(1), 1);
    }

    private static void promise4() {
        SyntaxTrees x = withConstants(2);
        x.symbol(0);
        x.symbol(0);
        due("put without an open rule", x.put(1), NONE);
        x.begin(0);
        for (int wrong : NO_SYMBOLS) {
            due("put(" + wrong + ")", x.put(wrong), NONE);
        }
        due("put(4)", x.put(4), NONE);
        due("put constant", x.put(1), 1);
        due("put constant again", x.put(1), 2);
        due("put variable", x.put(2), 3);
        due("put variable again", x.put(2), NONE);
        due("put other variable of the type", x.put(3), 4);
        due("put the first again", x.put(2), NONE);
        due("put the sort", x.put(0), 5);
        counts("put", x, 4, 1, 0, 5);
        due("close()", x.close(), 1);
        due("put behind close", x.put(1), NONE);
        x.begin(0);
        due("the variable in another rule", x.put(2), 1);
        counts("put twice", x, 4, 1, 1, 6);
    }

    private static void promise5() {
        SyntaxTrees x = withConstants(2);
        due("close without an open rule", x.close(), 0);
        x.begin(0);
        due("close without symbols", x.close(), 0);
        due("it stays open", x.begin(0), NONE);
        due("put", x.put(1), 1);
        row(x, 1);
        due("an open rule doesn't count", x.trees(0, ANY), 0);
        due("close", x.close(), 1);
        due("a closed one does", x.trees(0, ANY), 1);
        due("close again", x.close(), 0);
        counts("closed", x, 2, 1, 1, 1);
    }

    private static void promise6() {
        SyntaxTrees x = withConstants(1);
        x.symbol(0);
        for (int wrong : NO_SYMBOLS) {
            due("add(" + wrong + ")", x.add(wrong), NONE);
        }
        due("add(2)", x.add(2), NONE);
        due("nothing was added", x.count(4), 0);
        for (int k = 1; k <= 59; k++) {
            due("add", x.add(k % 2), k);
        }
        due("add the 60th", x.add(0), NONE);
        due("59 stay", x.count(4), 59);
    }

    private static void promise7() {
        SyntaxTrees x = withConstants(1);
        x.symbol(0);
        row(x, 1);
        due("make", x.make(0, 0), 1);
        due("empty()", x.empty(), 1);
        due("empty() again", x.empty(), 0);
        due("the row", x.count(4), 0);
        due("the tree stays", x.count(5), 1);
        due("its variable", x.told(0), -3);
        due("check", x.check(), 1);
        due("add to the emptied row", x.add(0), 1);
        due("the old row is gone", x.trees(0, ANY), 0);
        due("the tree's variable stays", x.told(0), -3);
        due("check in the row it was made for", x.check(), 1);
    }

    /** 0 expr, 1 term; 2 plus, 3 times, 4 one, 5 no sort; 6 e, 7 f expr, 8 t, 9 u term. */
    private static SyntaxTrees sums() {
        SyntaxTrees x = withConstants(6);
        x.symbol(0);
        x.symbol(0);
        x.symbol(1);
        x.symbol(1);
        rule(x, 0, 0, 6, 2, 8);
        rule(x, 1, 0, 8);
        rule(x, 2, 1, 8, 3, 9);
        rule(x, 3, 1, 4);
        return x;
    }

    private static void promise8() {
        SyntaxTrees x = sums();
        for (int wrong : NO_SYMBOLS) {
            due("trees(" + wrong + ", 9) of an empty row", x.trees(wrong, 9), NONE);
        }
        due("of a variable", x.trees(6, 9), NONE);
        due("of an empty row", x.trees(0, 9), 0);
        row(x, 4, 2, 4, 3, 4, 2, 4);
        due("1+1*1+1", x.trees(0, 9), 1);
        due("without times", x.trees(0, 2), 0);
        due("without one", x.trees(0, 3), 0);
        due("limit 4", x.trees(0, 4), 1);
        due("as a term", x.trees(1, 9), 0);
        due("of a constant that is no sort", x.trees(5, 9), 0);
        due("of plus", x.trees(2, 9), 0);
        due("of no symbol", x.trees(10, 9), NONE);
        due("limit MAX", x.trees(0, Integer.MAX_VALUE), 1);
        due("limit MIN", x.trees(0, Integer.MIN_VALUE), 0);
        row(x, 4, 3, 4, 3, 4);
        due("1*1*1 has two", x.trees(0, 9), 2);
        due("1*1*1 as a term", x.trees(1, 9), 2);
        row(x, 4, 2);
        due("1+", x.trees(0, 9), 0);
        row(x, 8);
        due("a variable alone", x.trees(1, 0), 1);
        due("a variable alone, wrapped", x.trees(0, 9), 1);
        due("not wrapped below 1", x.trees(0, 1), 0);
        due("wrapped below 2", x.trees(0, 2), 1);
        row(x, 8, 2, 6);
        due("the wrong kind on the right", x.trees(0, 9), 0);
        row(x, 7, 2, 9);
        due("other variables than the rule's", x.trees(0, 9), 1);
        row(x, 7, 2, 7);
        due("a type is not another one", x.trees(0, 9), 0);
        rule(x, 4, 1, 4);
        row(x, 4);
        due("the same row by two rules", x.trees(1, 9), 2);
        due("by the first alone", x.trees(1, 4), 1);
        due("two in one", x.trees(0, 5), 2);
        rule(x, 5, 5, 6);
        row(x, 6);
        due("a constant that is a sort now", x.trees(5, 9), 1);
        due("but not below its rule", x.trees(5, 5), 0);
    }

    private static void promise8WithoutEnd() {
        SyntaxTrees x = withConstants(4);
        x.symbol(0);
        x.symbol(1);
        x.symbol(2);
        rule(x, 0, 0, 5);
        rule(x, 1, 1, 6);
        rule(x, 2, 2, 5);
        rule(x, 3, 2, 3);
        row(x, 3);
        due("a circle beside the way", x.trees(2, 9), 2);
        due("below it", x.trees(2, 2), 0);
        due("into the circle", x.trees(0, 9), 2);
        row(x, 4);
        due("a circle without a tree", x.trees(1, 9), 0);
        due("a variable beside it", x.trees(0, 9), 1);
        row(x, 5);
        due("a variable in the circle", x.trees(1, 9), 2);
        due("the variable with the circle open", x.trees(1, 2), 1);
        rule(x, 4, 0, 4);
        row(x, 4);
        due("a sort of itself", x.trees(0, 5), 2);
        due("a sort not yet of itself", x.trees(0, 4), 1);
    }

    /** Several trees of a part make several of the whole, wherever other stretches have several. */
    private static void promise8Several() {
        SyntaxTrees x = withConstants(6);
        x.symbol(1);
        x.symbol(2);
        rule(x, 0, 1, 3);
        rule(x, 1, 1, 3);
        rule(x, 2, 1, 4, 3);
        rule(x, 3, 1, 4, 3);
        rule(x, 4, 0, 5, 4, 6);
        row(x, 5, 4, 3);
        due("several at the end", x.trees(0, 9), 2);
        due("one", x.trees(0, 1), 0);
        rule(x, 5, 1, 3, 4);
        rule(x, 6, 1, 3, 4);
        rule(x, 7, 2, 4, 3);
        rule(x, 8, 0, 6, 7);
        row(x, 3, 4, 3);
        due("several at the beginning", x.trees(0, 9), 2);
        row(x, 5, 4, 3);
        due("several at the end", x.trees(0, 9), 2);
        rule(x, 9, 0, 6, 4, 4, 7);
        row(x, 3, 4, 4, 4, 3);
        due("several before the last", x.trees(0, 10), 2);
        due("without its rule", x.trees(0, 9), 0);
    }

    private static void promise9() {
        SyntaxTrees x = sums();
        due("an empty row", x.part(0, 9, 0, 0), NONE);
        due("an empty row's place", x.part(0, 9, 0, 1), NONE);
        row(x, 4, 2, 4, 3, 4, 3, 4);
        due("the whole", x.part(0, 9, 0, 7), 2);
        due("1+1*1", x.part(0, 9, 0, 5), 1);
        due("1+1*1 without times", x.part(0, 2, 0, 5), 0);
        due("1*1 as a term", x.part(1, 9, 2, 5), 1);
        due("1*1*1 as a term", x.part(1, 9, 2, 7), 2);
        due("1+1 as a term", x.part(1, 9, 0, 3), 0);
        due("the last", x.part(0, 9, 6, 7), 1);
        due("plus", x.part(0, 9, 1, 2), 0);
        due("no sort", x.part(5, 9, 0, 1), 0);
        due("no sort, no places", x.part(5, 9, 0, 8), NONE);
        due("from = to", x.part(0, 9, 3, 3), NONE);
        due("from > to", x.part(0, 9, 4, 3), NONE);
        due("behind the row", x.part(0, 9, 6, 8), NONE);
        due("from the row's length", x.part(0, 9, 7, 8), NONE);
        due("before the row", x.part(0, 9, -1, 3), NONE);
        due("from MIN", x.part(0, 9, Integer.MIN_VALUE, 3), NONE);
        due("to MAX", x.part(0, 9, 0, Integer.MAX_VALUE), NONE);
        for (int wrong : NO_SYMBOLS) {
            due("of " + wrong, x.part(wrong, 9, 0, 1), NONE);
        }
        due("of a variable", x.part(6, 9, 0, 1), NONE);
        due("of no symbol", x.part(10, 9, 0, 1), NONE);
        due("limit -1", x.part(1, -1, 0, 1), 0);
    }

    private static void promise10() {
        SyntaxTrees x = sums();
        due("of an empty row", x.make(0, 9), NONE);
        row(x, 4, 2, 4, 3, 4);
        for (int wrong : NO_SYMBOLS) {
            due("make(" + wrong + ", 9)", x.make(wrong, 9), NONE);
        }
        due("of a variable", x.make(6, 9), NONE);
        due("of no sort", x.make(5, 9), NONE);
        due("nothing was made", x.count(5), 0);
        due("1+1*1", x.make(0, 9), 6);
        due("without its rules", x.make(0, 3), NONE);
        due("of no symbol", x.make(10, 9), NONE);
        row(x, 4, 3, 4, 3, 4);
        due("1*1*1", x.make(0, 9), NONE);
        row(x, 4, 4);
        due("11", x.make(0, 9), NONE);
        due("what was made stays", x.count(5), 6);
        due("its whole stays", x.node(0, 3), 5);
        row(x, 6);
        due("e", x.make(0, 9), 1);
        due("what was made is gone", x.node(1, 1), NONE);
    }

    private static void nodes(SyntaxTrees x, int[][] want) {
        for (int k = 0; k < want.length; k++) {
            for (int what = 0; what < 6; what++) {
                due("node(" + k + ", " + what + ")", x.node(k, what), want[k][what]);
            }
            due("node(" + k + ", 6)", x.node(k, 6), NONE);
            due("node(" + k + ", -1)", x.node(k, -1), NONE);
        }
        int[] none = {-1, want.length, Integer.MAX_VALUE, Integer.MIN_VALUE};
        for (int k : none) {
            for (int what = 0; what < 6; what++) {
                due("node(" + k + ", " + what + ")", x.node(k, what), NONE);
            }
        }
    }

    private static void tells(SyntaxTrees x, int... want) {
        for (int k = 0; k < want.length; k++) {
            due("told(" + k + ")", x.told(k), want[k]);
        }
        due("told(-1)", x.told(-1), NONE);
        due("told behind the last", x.told(want.length), NONE);
        due("told(MAX)", x.told(Integer.MAX_VALUE), NONE);
        due("told(MIN)", x.told(Integer.MIN_VALUE), NONE);
    }

    private static void promise11() {
        SyntaxTrees x = sums();
        row(x, 9, 3, 4, 2, 8, 3, 9);
        due("u*1+t*u", x.make(0, 9), 8);
        nodes(x, new int[][] {
            {0, 0, 0, 7, 1, 2},
            {1, 0, 0, 3, 3, 1},
            {2, 1, 4, 7, 4, 2},
            {2, 1, 0, 3, 6, 2},
            {NONE, 1, 4, 5, NONE, 0},
            {NONE, 1, 6, 7, NONE, 0},
            {NONE, 1, 0, 1, NONE, 0},
            {3, 1, 2, 3, NONE, 0}});
        tells(x, -11, 3, 2, 1, -10, -11, 2, 0);
    }

    private static void promise12() {
        SyntaxTrees x = sums();
        row(x, 6);
        due("e", x.make(0, 9), 1);
        tells(x, -8);
        nodes(x, new int[][] {{NONE, 0, 0, 1, NONE, 0}});
        row(x, 6, 2, 4, 2, 8);
        due("e+1+t", x.make(0, 9), 5);
        tells(x, -8, 3, 0, -10, 0);
        row(x, 4);
        due("1", x.make(1, 9), 1);
        tells(x, 3);
        due("1 as a sum", x.make(0, 9), 2);
        tells(x, 3, 1);
        row(x, 4, 4);
        due("11", x.make(0, 9), NONE);
        tells(x, 3, 1);
    }

    private static void promise13() {
        SyntaxTrees x = sums();
        counts("sums", x, 10, 2, 4, 8, 0, 0);
        row(x, 4, 2, 4);
        x.make(0, 9);
        counts("1+1", x, 10, 2, 4, 8, 3, 4);
        due("begin", x.begin(5), 4);
        counts("a sort more by the open rule", x, 10, 3, 4, 8, 3, 4);
        due("put", x.put(5), 1);
        counts("a symbol more in the open rule", x, 10, 3, 4, 9, 3, 4);
        due("close", x.close(), 1);
        counts("a rule more", x, 10, 3, 5, 9, 3, 4);
        due("symbol", x.symbol(2), 10);
        counts("a sort more by a variable", x, 11, 4, 5, 9, 3, 4);
        int[] others = {-1, 6, 7, Integer.MAX_VALUE, Integer.MIN_VALUE};
        for (int what : others) {
            due("count(" + what + ")", x.count(what), NONE);
        }
    }

    private static void promise14() {
        SyntaxTrees x = sums();
        due("nothing made", x.check(), 1);
        row(x, 9, 3, 4, 2, 8, 3, 9);
        due("make as a term", x.make(1, 9), NONE);
        due("make", x.make(0, 9), 8);
        due("made", x.check(), 1);
        row(x, 2, 2);
        due("another row", x.check(), 1);
        due("can't be made", x.make(0, 9), NONE);
        due("still", x.check(), 1);
        rule(x, 4, 1, 2, 2);
        due("another rule", x.check(), 1);
    }
}
