import java.util.ArrayList;
import java.util.List;

/**
 * Rows up to the longest, drawn from rules at random: the trees of every stretch against sums over
 * all splits, and every node of the only tree against the row and the rules.
 */
public final class LongRowsTest {
    private static final int GRAMMARS = 400;
    private static final int ROWS = 6;

    /** Fixed, so that each run of the tests is the same. */
    private static long seed = 59;

    private final SyntaxTrees x = new SyntaxTrees();
    private final int sorts = 1 + random(4);
    private final int constants = sorts + 1 + random(4);
    private final int symbols = constants + sorts * 2;
    private final List<Integer> made = new ArrayList<>();
    private final List<int[]> rules = new ArrayList<>();
    private final List<Integer> row = new ArrayList<>();
    /** By sort, start and end. */
    private final int[][][] counts = new int[sorts][60][60];
    private int told;

    private LongRowsTest() {
    }

    public static void main(String[] args) {
        for (int k = 0; k < GRAMMARS && Due.wrong() < 20; k++) {
            new LongRowsTest().play();
        }
        Due.end();
    }

    private static int random(int below) {
        seed = seed * 6364136223846793005L + 1442695040888963407L;
        return (int) ((seed >>> 33) % below);
    }

    /** Symbols 0 to sorts - 1 are the sorts, then come other constants, then two variables a sort. */
    private int typeOf(int symbol) {
        return symbol < constants ? SyntaxTrees.NONE : (symbol - constants) % sorts;
    }

    private void play() {
        for (int k = 0; k < symbols; k++) {
            Due.due("symbol", x.symbol(typeOf(k)), k);
        }
        int number = 1 + random(7);
        for (int k = 0; k < number; k++) {
            tellRule();
        }
        for (int k = 0; k < ROWS; k++) {
            int sort = drawRow();
            int limit = random(4) == 0 ? random(rules.size() + 1) : rules.size();
            sumUp(limit);
            compareCounts(limit);
            compareTree(sort, limit);
        }
    }

    private void tellRule() {
        int sort = random(sorts);
        int length = 1 + random(4);
        int[] put = new int[length];
        int size = 0;
        x.begin(sort);
        for (int k = 0; k < length; k++) {
            int symbol = random(3) == 0 ? random(symbols) : sorts + random(constants - sorts);
            if (x.put(symbol) > 0) {
                put[size++] = symbol;
            }
        }
        Due.due("close", x.close(), 1);
        made.add(sort);
        rules.add(java.util.Arrays.copyOf(put, size));
    }

    /** Replaces variables of the row by rules for them, as long as the row stays short enough. */
    private int drawRow() {
        int sort = random(sorts);
        int longest = 1 + random(59);
        row.clear();
        row.add(constants + sort);
        for (int step = 0; step < 200; step++) {
            int place = random(row.size());
            int rule = random(rules.size());
            int[] put = rules.get(rule);
            boolean fits = typeOf(row.get(place)) == made.get(rule);
            if (fits && row.size() + put.length - 1 <= longest) {
                row.remove(place);
                for (int k = 0; k < put.length; k++) {
                    row.add(place + k, put[k]);
                }
            }
        }
        x.empty();
        for (int k = 0; k < row.size(); k++) {
            Due.due("add", x.add(row.get(k)), k + 1);
        }
        return sort;
    }

    private void sumUp(int limit) {
        for (int length = 1; length <= row.size(); length++) {
            for (int start = 0; start + length <= row.size(); start++) {
                sumUpStretch(limit, start, start + length);
            }
        }
    }

    private void sumUpStretch(int limit, int start, int end) {
        for (int sort = 0; sort < sorts; sort++) {
            counts[sort][start][end] = 0;
        }
        for (boolean more = true; more; ) {
            more = false;
            for (int sort = 0; sort < sorts; sort++) {
                int sum = end == start + 1 && typeOf(row.get(start)) == sort ? 1 : 0;
                for (int rule = 0; rule < limit; rule++) {
                    sum += made.get(rule) == sort ? ways(rules.get(rule), start, end) : 0;
                }
                sum = Math.min(sum, 2);
                more |= sum > counts[sort][start][end];
                counts[sort][start][end] = sum;
            }
        }
    }

    private int ways(int[] put, int start, int end) {
        int[] ways = new int[end + 1];
        ways[start] = 1;
        for (int symbol : put) {
            int[] next = new int[end + 1];
            for (int from = start; from < end; from++) {
                for (int to = from + 1; to <= end && ways[from] > 0; to++) {
                    next[to] = Math.min(2, next[to] + ways[from] * waysOfSymbol(symbol, from, to));
                }
            }
            ways = next;
        }
        return ways[end];
    }

    private int waysOfSymbol(int symbol, int from, int to) {
        if (symbol >= constants) {
            return counts[typeOf(symbol)][from][to];
        }
        return to == from + 1 && row.get(from) == symbol ? 1 : 0;
    }

    private void compareCounts(int limit) {
        for (int sort = 0; sort < sorts; sort++) {
            Due.due("trees", x.trees(sort, limit), counts[sort][0][row.size()]);
            for (int k = 0; k < 40; k++) {
                int start = random(row.size());
                int end = start + 1 + random(row.size() - start);
                Due.due("part", x.part(sort, limit, start, end), counts[sort][start][end]);
            }
        }
    }

    private void compareTree(int sort, int limit) {
        int nodes = x.make(sort, limit);
        boolean only = counts[sort][0][row.size()] == 1;
        Due.due("make", nodes > 0 ? 1 : nodes, only ? 1 : SyntaxTrees.NONE);
        if (!only) {
            return;
        }
        Due.due("count", x.count(5), nodes);
        Due.due("sort", x.node(0, 1), sort);
        Due.due("start", x.node(0, 2), 0);
        Due.due("end", x.node(0, 3), row.size());
        int parts = 1;
        for (int k = 0; k < nodes; k++) {
            Due.due("first part", x.node(k, 4), x.node(k, 5) == 0 ? SyntaxTrees.NONE : parts);
            parts += x.node(k, 5);
            compareNode(k, limit);
        }
        Due.due("all parts", parts, nodes);
        told = 0;
        compareTold(0);
        Due.due("all told", told, nodes);
        Due.due("check", x.check(), 1);
    }

    private void compareNode(int k, int limit) {
        int rule = x.node(k, 0);
        int at = x.node(k, 2);
        if (rule == SyntaxTrees.NONE) {
            Due.due("variable's type", typeOf(row.get(at)), x.node(k, 1));
            Due.due("variable's end", x.node(k, 3), at + 1);
            Due.due("variable's parts", x.node(k, 5), 0);
            return;
        }
        Due.due("rule below the limit", rule < limit ? 1 : 0, 1);
        Due.due("rule's sort", made.get(rule), x.node(k, 1));
        int part = x.node(k, 4);
        for (int symbol : rules.get(rule)) {
            if (symbol < constants) {
                Due.due("constant", row.get(at), symbol);
                at++;
            } else {
                Due.due("part's sort", x.node(part, 1), typeOf(symbol));
                Due.due("part's start", x.node(part, 2), at);
                at = x.node(part, 3);
                part++;
            }
        }
        Due.due("rule's end", x.node(k, 3), at);
    }

    private void compareTold(int k) {
        for (int part = 0; part < x.node(k, 5); part++) {
            compareTold(x.node(k, 4) + part);
        }
        int rule = x.node(k, 0);
        Due.due("told", x.told(told), rule == SyntaxTrees.NONE ? -2 - row.get(x.node(k, 2)) : rule);
        told++;
    }
}
