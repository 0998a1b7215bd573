import java.util.Arrays;

/** Objects in the states that the tests of boundary cases begin with. */
final class States {
    static final int NONE = SyntaxTrees.NONE;
    static final int ANY = Integer.MAX_VALUE;
    static final int MIN = Integer.MIN_VALUE;
    static final int MAX = Integer.MAX_VALUE;

    private States() {
    }

    static SyntaxTrees fresh() {
        return new SyntaxTrees();
    }

    /** Constants 0 to below the number. */
    static SyntaxTrees constants(int number) {
        SyntaxTrees x = new SyntaxTrees();
        for (int k = 0; k < number; k++) {
            Due.due("symbol(NONE)", x.symbol(NONE), k);
        }
        return x;
    }

    static void rule(SyntaxTrees x, int sort, int... symbols) {
        Due.due("begin(" + sort + ")", x.begin(sort), x.count(2));
        puts(x, symbols);
        Due.due("close()", x.close(), 1);
    }

    /** The first symbols of the open rule. */
    static void puts(SyntaxTrees x, int... symbols) {
        for (int k = 0; k < symbols.length; k++) {
            Due.due("put(" + symbols[k] + ")", x.put(symbols[k]), k + 1);
        }
    }

    static void row(SyntaxTrees x, int... symbols) {
        x.empty();
        for (int k = 0; k < symbols.length; k++) {
            Due.due("add(" + symbols[k] + ")", x.add(symbols[k]), k + 1);
        }
    }

    static int[] times(int number, int symbol) {
        int[] symbols = new int[number];
        Arrays.fill(symbols, symbol);
        return symbols;
    }

    static void counts(SyntaxTrees x, int... want) {
        for (int what = 0; what < want.length; what++) {
            Due.due("count(" + what + ")", x.count(what), want[what]);
        }
    }

    /**
     * Constants 0 list, 1 item, 2 comma, 3 a, 4 b, 5 no sort; variables 6 and 7 of list, 8 and 9 of
     * item. Rules 0: list = list comma item, 1: list = item, 2: item = a, 3: item = b.
     */
    static SyntaxTrees lists() {
        SyntaxTrees x = constants(6);
        x.symbol(0);
        x.symbol(0);
        x.symbol(1);
        x.symbol(1);
        rule(x, 0, 6, 2, 8);
        rule(x, 0, 8);
        rule(x, 1, 3);
        rule(x, 1, 4);
        return x;
    }

    /** Lists, with the tree of 'a, item' made, and the row 'b, a, list' at hand. */
    static SyntaxTrees made() {
        SyntaxTrees x = lists();
        row(x, 3, 2, 9);
        Due.due("make(0, ANY)", x.make(0, ANY), 4);
        row(x, 4, 2, 3, 2, 7);
        return x;
    }

    /** As made, with an open rule that has no symbols. */
    static SyntaxTrees begun() {
        SyntaxTrees x = made();
        Due.due("begin(1)", x.begin(1), 4);
        return x;
    }

    /** As made, with an open rule: item = b list comma. */
    static SyntaxTrees open() {
        SyntaxTrees x = begun();
        puts(x, 4, 6, 2);
        return x;
    }

    /** 100 sorts by variables, the constants 100 and 101 that are none, variables from 102 on. */
    static SyntaxTrees fullOfSorts() {
        SyntaxTrees x = constants(102);
        for (int sort = 0; sort < 100; sort++) {
            Due.due("symbol(" + sort + ")", x.symbol(sort), 102 + sort);
        }
        return x;
    }

    /** 100 sorts by rules 0 to 99 of the constant 101; the constant 100 is none. */
    static SyntaxTrees fullOfRuledSorts() {
        SyntaxTrees x = constants(102);
        for (int sort = 0; sort < 100; sort++) {
            rule(x, sort, 101);
        }
        return x;
    }

    /** As many rules of the sort 0, all of the constant 1; the constant 2 is no sort. */
    static SyntaxTrees rules(int number) {
        SyntaxTrees x = constants(3);
        for (int k = 0; k < number; k++) {
            rule(x, 0, 1);
        }
        return x;
    }

    /** Rules of the sort 0 that have as many symbols together, all of them the constant 1. */
    static SyntaxTrees ruleSymbols(int number) {
        SyntaxTrees x = constants(3);
        for (int left = number; left > 0; left -= 299) {
            rule(x, 0, times(Math.min(left, 299), 1));
        }
        return x;
    }
}
