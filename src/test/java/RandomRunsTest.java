/** Runs of calls, ordinary and wrong ones mixed, whose answers the plain model has to share. */
public final class RandomRunsTest {
    private static final int RUNS = 1500;
    private static final int CALLS = 512;

    /** Fixed, so that each run of the tests is the same. */
    private static long seed = 20261115;

    private final SyntaxTrees x = new SyntaxTrees();
    private final PlainModel model = new PlainModel();
    private final int run;
    private final int constants;
    private final int longestRow;
    private int calls = 0;

    private RandomRunsTest(int run) {
        this.run = run;
        this.constants = 2 + random(4);
        this.longestRow = 1 + random(7);
    }

    public static void main(String[] args) {
        for (int run = 0; run < RUNS && Due.wrong() < 20; run++) {
            new RandomRunsTest(run).play();
        }
        Due.end();
    }

    private static int random(int below) {
        seed = seed * 6364136223846793005L + 1442695040888963407L;
        return (int) ((seed >>> 33) % below);
    }

    private static int oddNumber() {
        int[] odd = {-1, -2, -3, 59, 60, 1000, 1500, Integer.MAX_VALUE, Integer.MIN_VALUE};
        return odd[random(odd.length)];
    }

    private int symbolNumber() {
        return random(25) == 0 ? oddNumber() : random(model.count(0) + 1);
    }

    private int sortNumber() {
        return random(25) == 0 ? symbolNumber() : random(constants);
    }

    private int limit() {
        return random(8) == 0 ? oddNumber() : random(model.count(2) + 2);
    }

    private void play() {
        for (int k = 0; k < constants; k++) {
            same("symbol(-1)", x.symbol(-1), model.symbol(-1));
        }
        int variables = 1 + random(6);
        for (int k = 0; k < variables; k++) {
            int type = random(constants);
            same("symbol(" + type + ")", x.symbol(type), model.symbol(type));
        }
        int rules = random(random(3) == 0 ? 16 : 8);
        for (int k = 0; k < rules; k++) {
            tellRule();
        }
        while (calls < CALLS - 60) {
            askSomething();
            if (Due.wrong() > 0) {
                System.out.println("in run " + run);
                return;
            }
        }
    }

    private void tellRule() {
        int sort = sortNumber();
        same("begin(" + sort + ")", x.begin(sort), model.begin(sort));
        int length = 1 + random(random(2) == 0 ? 2 : 4);
        for (int k = 0; k < length; k++) {
            int symbol = symbolNumber();
            same("put(" + symbol + ")", x.put(symbol), model.put(symbol));
        }
        if (random(6) != 0) {
            same("close()", x.close(), model.close());
        }
    }

    private void askSomething() {
        int sort = sortNumber();
        int limit = limit();
        switch (random(20)) {
            case 0 -> tellRule();
            case 1 -> same("symbol(" + sort + ")", x.symbol(sort), model.symbol(sort));
            case 2 -> same("close()", x.close(), model.close());
            case 3, 4, 5, 6, 7, 8 -> lengthenRow();
            case 9, 10 -> same("empty()", x.empty(), model.empty());
            case 11, 12, 13 -> askTrees(sort, limit);
            case 14, 15 -> askPart(sort, limit);
            case 16, 17, 18 -> askMake(sort, limit);
            default -> askCounts();
        }
    }

    private void lengthenRow() {
        int more = model.count(4) < longestRow ? 1 + random(longestRow - model.count(4)) : 0;
        for (int k = 0; k < more; k++) {
            int symbol = symbolNumber();
            same("add(" + symbol + ")", x.add(symbol), model.add(symbol));
        }
    }

    private void askTrees(int sort, int limit) {
        same("trees(" + sort + ", " + limit + ")", x.trees(sort, limit), model.trees(sort, limit));
    }

    private void askPart(int sort, int limit) {
        int from = random(15) == 0 ? oddNumber() : random(model.count(4) + 1);
        int to = random(15) == 0 ? oddNumber() : random(model.count(4) + 2);
        same("part(" + sort + ", " + limit + ", " + from + ", " + to + ")",
                x.part(sort, limit, from, to), model.part(sort, limit, from, to));
    }

    private void askMake(int sort, int limit) {
        int nodes = model.make(sort, limit);
        same("make(" + sort + ", " + limit + ")", x.make(sort, limit), nodes);
        if (nodes != PlainModel.NONE) {
            askNodes();
        }
    }

    private void askNodes() {
        for (int k = -1; k <= model.count(5); k++) {
            for (int what = -1; what <= 6; what++) {
                due("node(" + k + ", " + what + ")", x.node(k, what), model.node(k, what));
            }
            due("told(" + k + ")", x.told(k), model.told(k));
        }
        same("check()", x.check(), model.check());
    }

    private void askCounts() {
        for (int what = -1; what <= 6; what++) {
            due("count(" + what + ")", x.count(what), model.count(what));
        }
        int k = oddNumber();
        due("node(" + k + ", 0)", x.node(k, 0), model.node(k, 0));
        due("told(" + k + ")", x.told(k), model.told(k));
        same("check()", x.check(), model.check());
    }

    private void same(String call, int got, int want) {
        calls++;
        due(call, got, want);
    }

    private void due(String call, int got, int want) {
        Due.due("run " + run + ": " + call, got, want);
    }
}
