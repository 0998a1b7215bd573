import java.util.ArrayList;
import java.util.List;
import java.util.Set;
import java.util.TreeSet;
import java.util.function.Supplier;
import java.util.function.ToIntFunction;

/**
 * Whether a call did nothing: two objects get the same calls, one of them the call in question as
 * well; then both must answer alike whatever they are asked, and whatever is done with them.
 */
final class Twin {
    private static final int ANY = Integer.MAX_VALUE;
    private static final int NONE = SyntaxTrees.NONE;
    private static final int MOST_LOOKED_AT = 12;

    private final SyntaxTrees x;
    private final List<String> answers = new ArrayList<>();

    private Twin(SyntaxTrees x) {
        this.x = x;
    }

    /** The call in this state answers so, and does nothing. */
    static void idle(
            String name, Supplier<SyntaxTrees> state, ToIntFunction<SyntaxTrees> call, int answer) {
        SyntaxTrees x = state.get();
        Due.due(name, call.applyAsInt(x), answer);
        compare(name, new Twin(x).trace(), new Twin(state.get()).trace());
    }

    /** The call in this state answers NONE, and does nothing. */
    static void refused(String name, Supplier<SyntaxTrees> state, ToIntFunction<SyntaxTrees> call) {
        idle(name, state, call, NONE);
    }

    private static void compare(String name, List<String> got, List<String> want) {
        Due.due("answers after " + name, got.size(), want.size());
        for (int k = 0; k < Math.min(got.size(), want.size()); k++) {
            if (!got.get(k).equals(want.get(k))) {
                Due.due("after " + name + ": " + got.get(k) + ", without it: " + want.get(k), 0, 1);
                return;
            }
        }
    }

    private List<String> trace() {
        look();
        Set<Integer> symbols = someSymbols();
        goOnWithRule(symbols);
        nameTheRow(symbols);
        newRules(symbols);
        look();
        newRow(symbols);
        newSymbols(symbols);
        look();
        return answers;
    }

    private void note(String call, int answer) {
        answers.add(call + " answered " + answer);
    }

    /** The first and the last symbols, and the numbers beside them. */
    private Set<Integer> someSymbols() {
        Set<Integer> some = new TreeSet<>();
        int size = x.count(0);
        for (int k = 0; k < MOST_LOOKED_AT; k++) {
            some.add(Math.min(k - 1, size));
            some.add(Math.max(size - k, -1));
        }
        return some;
    }

    private void look() {
        for (int what = -1; what <= 6; what++) {
            note("count(" + what + ")", x.count(what));
        }
        note("check()", x.check());
        for (int k = -1; k <= x.count(5); k++) {
            for (int what = 0; what < 6; what++) {
                note("node(" + k + ", " + what + ")", x.node(k, what));
            }
            note("told(" + k + ")", x.told(k));
        }
        int closed = x.count(2);
        for (int sort : someSymbols()) {
            for (int limit : new int[] {0, closed - 1, closed, ANY}) {
                note("trees(" + sort + ", " + limit + ")", x.trees(sort, limit));
            }
            note("part(" + sort + ", ANY, 0, 1)", x.part(sort, ANY, 0, 1));
        }
    }

    /** Shows whether a rule is open, how many symbols it has, and which of the variables. */
    private void goOnWithRule(Set<Integer> symbols) {
        for (int symbol : symbols) {
            note("put(" + symbol + ") as it was", x.put(symbol));
        }
        note("close() as it was", x.close());
        look();
    }

    /** Shows which symbols the row has, by a rule for each in a sort that has no other rules. */
    private void nameTheRow(Set<Integer> symbols) {
        int fresh = x.symbol(NONE);
        for (int symbol : symbols) {
            note("begin for the row", x.begin(fresh));
            note("put(" + symbol + ") for the row", x.put(symbol));
            note("close() for the row", x.close());
            for (int place = 0; place <= x.count(4); place++) {
                note("the row's place " + place, x.part(fresh, ANY, place, place + 1));
            }
        }
    }

    private void newRules(Set<Integer> symbols) {
        for (int sort : symbols) {
            note("begin(" + sort + ")", x.begin(sort));
            for (int symbol : symbols) {
                note("put(" + symbol + ")", x.put(symbol));
            }
            note("close()", x.close());
        }
    }

    private void newRow(Set<Integer> symbols) {
        note("add(0) as it was", x.add(0));
        note("empty()", x.empty());
        for (int symbol : symbols) {
            note("add(" + symbol + ")", x.add(symbol));
        }
        note("empty() again", x.empty());
        note("add(0)", x.add(0));
        for (int sort : symbols) {
            note("make(" + sort + ", 1)", x.make(sort, 1));
        }
    }

    private void newSymbols(Set<Integer> symbols) {
        for (int type : symbols) {
            note("symbol(" + type + ")", x.symbol(type));
        }
    }
}
