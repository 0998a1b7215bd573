/**
 * Rules that sorts are made of rows of symbols, and the trees that they give to a row: how many
 * there are, and the only one.
 */
public final class SyntaxTrees {
    /** There is none, or nothing is done. */
    public static final int NONE = -1;

    private static final int MOST_SYMBOLS = 1000;
    private static final int MOST_SORTS = 100;
    private static final int MOST_RULES = 1500;
    private static final int MOST_RULE_SYMBOLS = 30000;
    private static final int LONGEST_RULE = 299;
    private static final int LONGEST_ROW = 59;

    /** Starts and ends of stretches are 0 to 59, so that a set of them fits into one long. */
    private static final int ENDS = LONGEST_ROW + 1;

    /** Trees are told apart up to this number, which stands for more as well. */
    private static final int SEVERAL = 2;

    /**
     * Two stretches of a tree lie apart or one inside the other: there are 2 * 59 - 1 at most. The
     * nodes of one stretch stand in one another; if two had the same sort, what is between them
     * could be told again, and the tree would not be the only one.
     */
    private static final int MOST_NODES = (2 * LONGEST_ROW - 1) * MOST_SORTS;

    private final Symbols symbols;
    private final Rules rules;
    private final Row row;
    private final Chart chart;
    private final Tree tree;

    /** No symbols, no rules, an empty row. */
    public SyntaxTrees() {
        symbols = new Symbols();
        rules = new Rules(symbols);
        row = new Row();
        chart = new Chart(symbols, rules, row);
        tree = new Tree(symbols, rules, chart);
    }

    /** One more constant (type NONE) or variable of a type: its number, or NONE. */
    public int symbol(int type) {
        return type == NONE ? symbols.newConstant() : symbols.newVariable(type);
    }

    /** One more rule, open, that makes a sort: its number, or NONE. */
    public int begin(int sort) {
        return rules.open(sort);
    }

    /** The open rule has one symbol more: how many, or NONE. */
    public int put(int symbol) {
        return rules.lengthen(symbol);
    }

    /** The open rule is closed: 1, or 0 when that can't be. */
    public int close() {
        return rules.finish() ? 1 : 0;
    }

    /** One more symbol of the row: how many, or NONE. */
    public int add(int symbol) {
        return symbols.has(symbol) ? row.lengthen(symbol) : NONE;
    }

    /** The row is empty: how many symbols it had. */
    public int empty() {
        return row.clear();
    }

    /** How many trees of a sort the whole row has: 0, 1, 2 for more, or NONE. */
    public int trees(int sort, int limit) {
        if (!symbols.isConstant(sort)) {
            return NONE;
        }
        return chart.treesOf(sort, rules.below(limit), 0, row.length());
    }

    /** How many trees of a sort a stretch has: 0, 1, 2 for more, or NONE. */
    public int part(int sort, int limit, int from, int to) {
        if (!symbols.isConstant(sort) || from < 0 || from >= to || to > row.length()) {
            return NONE;
        }
        return chart.treesOf(sort, rules.below(limit), from, to);
    }

    /** Makes the only tree of a sort for the whole row: how many nodes it has, or NONE. */
    public int make(int sort, int limit) {
        int usable = rules.below(limit);
        if (!symbols.isConstant(sort) || chart.treesOf(sort, usable, 0, row.length()) != 1) {
            return NONE;
        }
        return tree.build(row, sort, usable);
    }

    /** Rule (0), sort (1), start (2), end (3), first part (4) or number of parts (5) of a node. */
    public int node(int k, int what) {
        return tree.detail(k, what);
    }

    /** The rule, or -2 - the variable, of the k-th node with parts told before their node. */
    public int told(int k) {
        return tree.toldAt(k);
    }

    /** Symbols (0), sorts (1), closed rules (2), their symbols (3), row (4) or nodes (5). */
    public int count(int what) {
        switch (what) {
            case 0:
                return symbols.size();
            case 1:
                return symbols.sorts();
            case 2:
                return rules.closed();
            case 3:
                return rules.used();
            case 4:
                return row.length();
            case 5:
                return tree.size();
            default:
                return NONE;
        }
    }

    /** 1 when each node's stretch is that of its rule with its parts, else 0. */
    public int check() {
        return tree.holds() ? 1 : 0;
    }

    private static long bit(int place) {
        return 1L << place;
    }

    private static boolean hasBit(long set, int place) {
        return (set & bit(place)) != 0;
    }

    private static boolean isRank(int rank) {
        return rank >= 0 && rank < MOST_SORTS;
    }

    /** Constants and variables; the constants that are sorts are ranked as they became sorts. */
    private static final class Symbols {
        private final int[] types = new int[MOST_SYMBOLS];
        private final int[] ranks = new int[MOST_SYMBOLS];
        /** The rank of a variable's type, NONE for a constant. */
        private final int[] typeRanks = new int[MOST_SYMBOLS];
        private int size;
        private int sorts;

        int size() {
            return size;
        }

        int sorts() {
            return sorts;
        }

        boolean has(int symbol) {
            return symbol >= 0 && symbol < size;
        }

        boolean isConstant(int symbol) {
            return has(symbol) && types[symbol] == NONE;
        }

        boolean isVariable(int symbol) {
            return has(symbol) && types[symbol] != NONE;
        }

        int typeOf(int symbol) {
            return has(symbol) ? types[symbol] : NONE;
        }

        int rankOf(int symbol) {
            return has(symbol) ? ranks[symbol] : NONE;
        }

        int typeRankOf(int symbol) {
            return has(symbol) ? typeRanks[symbol] : NONE;
        }

        int newConstant() {
            return size < MOST_SYMBOLS ? append(NONE, NONE) : NONE;
        }

        int newVariable(int type) {
            if (size >= MOST_SYMBOLS || !becomesSort(type)) {
                return NONE;
            }
            return append(type, rankOf(type));
        }

        /** Whether the symbol is a sort now; nothing is done when it can't be one. */
        boolean becomesSort(int symbol) {
            if (!isConstant(symbol)) {
                return false;
            }
            if (ranks[symbol] == NONE && sorts < MOST_SORTS) {
                ranks[symbol] = sorts;
                sorts++;
            }
            return ranks[symbol] != NONE;
        }

        private int append(int type, int typeRank) {
            types[size] = type;
            ranks[size] = NONE;
            typeRanks[size] = typeRank;
            size++;
            return size - 1;
        }
    }

    /** The closed rules, and the open one behind them. */
    private static final class Rules {
        private final Symbols symbols;
        private final int[] sorts = new int[MOST_RULES];
        private final int[] all = new int[MOST_RULE_SYMBOLS];
        /** Where the symbols of a rule, or of the next one, begin among all. */
        private final int[] firsts = new int[MOST_RULES + 1];
        /** Rules of one variable alone, by the rank of its type: the newest, and the one before. */
        private final int[] newestWraps = new int[MOST_SORTS];
        private final int[] olderWraps = new int[MOST_RULES];
        private int closed;
        private int used;
        private boolean isOpen;

        Rules(Symbols symbols) {
            this.symbols = symbols;
            for (int rank = 0; rank < MOST_SORTS; rank++) {
                newestWraps[rank] = NONE;
            }
        }

        int closed() {
            return closed;
        }

        int used() {
            return used;
        }

        /** How many closed rules are numbered below a limit. */
        int below(int limit) {
            return Math.max(0, Math.min(limit, closed));
        }

        boolean isClosed(int rule) {
            return rule >= 0 && rule < closed;
        }

        int sortOf(int rule) {
            return isClosed(rule) ? sorts[rule] : NONE;
        }

        int firstOf(int rule) {
            return rule >= 0 && rule <= closed ? firsts[rule] : used;
        }

        int lengthOf(int rule) {
            return isClosed(rule) ? firsts[rule + 1] - firsts[rule] : 0;
        }

        /** The symbol at a place among the symbols of all rules. */
        int symbolAt(int place) {
            return place >= 0 && place < used ? all[place] : NONE;
        }

        int newestWrap(int rank) {
            return isRank(rank) ? newestWraps[rank] : NONE;
        }

        int olderWrap(int rule) {
            return isClosed(rule) ? olderWraps[rule] : NONE;
        }

        int open(int sort) {
            if (isOpen || closed >= MOST_RULES || !symbols.becomesSort(sort)) {
                return NONE;
            }
            sorts[closed] = sort;
            isOpen = true;
            return closed;
        }

        int lengthen(int symbol) {
            if (!isOpen || used >= MOST_RULE_SYMBOLS || openLength() >= LONGEST_RULE) {
                return NONE;
            }
            if (!symbols.has(symbol) || symbols.isVariable(symbol) && openHas(symbol)) {
                return NONE;
            }
            all[used] = symbol;
            used++;
            return openLength();
        }

        boolean finish() {
            if (!isOpen || openLength() == 0) {
                return false;
            }
            if (openLength() == 1) {
                linkWrap(symbols.typeRankOf(all[used - 1]));
            }
            closed++;
            firsts[closed] = used;
            isOpen = false;
            return true;
        }

        /** The open rule is one symbol, whose type has a rank if it is a variable. */
        private void linkWrap(int rank) {
            if (isRank(rank)) {
                olderWraps[closed] = newestWraps[rank];
                newestWraps[rank] = closed;
            }
        }

        private int openLength() {
            return used - firsts[closed];
        }

        private boolean openHas(int symbol) {
            for (int place = firsts[closed]; place < used; place++) {
                if (all[place] == symbol) {
                    return true;
                }
            }
            return false;
        }
    }

    /** A row of symbols. */
    private static final class Row {
        private final int[] row = new int[LONGEST_ROW];
        private int length;

        int length() {
            return length;
        }

        int symbolAt(int place) {
            return place >= 0 && place < length ? row[place] : NONE;
        }

        int lengthen(int symbol) {
            if (length >= LONGEST_ROW) {
                return NONE;
            }
            row[length] = symbol;
            length++;
            return length;
        }

        int clear() {
            int had = length;
            length = 0;
            return had;
        }

        void copy(Row other) {
            length = other.length;
            for (int place = 0; place < length; place++) {
                row[place] = other.row[place];
            }
        }
    }

    /**
     * How many trees each stretch has of each sort. Starts are gone through from the last one back,
     * and the ends of each start forward: a rule of several symbols then needs only stretches that
     * are counted already.
     */
    private static final class Chart {
        private final Symbols symbols;
        private final Rules rules;
        private final Row row;
        /** By rank and end: the starts of stretches that have a tree, and that have several. */
        private final long[] starts = new long[MOST_SORTS * ENDS];
        private final long[] severalStarts = new long[MOST_SORTS * ENDS];
        /** By rank: the ends of such stretches from the start at hand. */
        private final long[] ends = new long[MOST_SORTS];
        private final long[] severalEnds = new long[MOST_SORTS];
        /** By a rule's symbol: where the rule up to and with it may end, from the start at hand. */
        private final long[] reach = new long[MOST_RULE_SYMBOLS];
        private final long[] severalReach = new long[MOST_RULE_SYMBOLS];
        /** By rank: how many trees the stretch at hand has. */
        private final int[] found = new int[MOST_SORTS];
        /** The rank of each tree found, for the rules of one variable that wrap it. */
        private final int[] queue = new int[MOST_SORTS * SEVERAL];
        private int queued;
        private int usable;

        Chart(Symbols symbols, Rules rules, Row row) {
            this.symbols = symbols;
            this.rules = rules;
            this.row = row;
        }

        /** Counts the trees of all stretches between two places, and tells those of the longest. */
        int treesOf(int sort, int firstRules, int from, int to) {
            int place = placeOf(symbols.rankOf(sort), to);
            if (place == NONE || from >= to) {
                return 0;
            }
            usable = firstRules;
            forgetStretches();
            for (int start = to - 1; start >= from; start--) {
                forgetStart();
                for (int end = start + 1; end <= to; end++) {
                    findTrees(start, end, to);
                    keepFound(start, end);
                }
            }
            if (hasBit(severalStarts[place], from)) {
                return SEVERAL;
            }
            return hasBit(starts[place], from) ? 1 : 0;
        }

        /** From where a rule's symbol may stand for a stretch up to an end, as counted last. */
        long startsOf(int symbol, int end) {
            int rank = symbols.typeRankOf(symbol);
            if (rank == NONE) {
                return end > 0 && row.symbolAt(end - 1) == symbol ? bit(end - 1) : 0;
            }
            int place = placeOf(rank, end);
            return place == NONE ? 0 : starts[place];
        }

        private long severalStartsOf(int symbol, int end) {
            int place = placeOf(symbols.typeRankOf(symbol), end);
            return place == NONE ? 0 : severalStarts[place];
        }

        private static int placeOf(int rank, int end) {
            if (!isRank(rank) || end < 0 || end >= ENDS) {
                return NONE;
            }
            return rank * ENDS + end;
        }

        private void forgetStretches() {
            int size = symbols.sorts() * ENDS;
            for (int place = 0; place < size; place++) {
                starts[place] = 0;
                severalStarts[place] = 0;
            }
        }

        private void forgetStart() {
            for (int rank = 0; rank < symbols.sorts(); rank++) {
                ends[rank] = 0;
                severalEnds[rank] = 0;
            }
            int size = rules.firstOf(usable);
            for (int place = 0; place < size; place++) {
                reach[place] = 0;
                severalReach[place] = 0;
            }
        }

        private void findTrees(int start, int end, int to) {
            queued = 0;
            for (int rank = 0; rank < symbols.sorts(); rank++) {
                found[rank] = 0;
            }
            if (end == start + 1) {
                findSingles(row.symbolAt(start));
            }
            for (int rule = 0; rule < usable; rule++) {
                int length = rules.lengthOf(rule);
                if (length > 1 && length <= to - start) {
                    addTrees(rules.sortOf(rule), waysToEnd(rule, start, end));
                }
            }
            wrapTrees();
        }

        /** Trees for one symbol: a variable alone, or a rule of just that constant. */
        private void findSingles(int symbol) {
            if (symbols.isVariable(symbol)) {
                addTrees(symbols.typeOf(symbol), 1);
                return;
            }
            for (int rule = 0; rule < usable; rule++) {
                if (rules.lengthOf(rule) == 1 && rules.symbolAt(rules.firstOf(rule)) == symbol) {
                    addTrees(rules.sortOf(rule), 1);
                }
            }
        }

        /** How many ways a rule of several symbols has to be a stretch. */
        private int waysToEnd(int rule, int start, int end) {
            int first = rules.firstOf(rule);
            int behind = first + rules.lengthOf(rule);
            int symbol = rules.symbolAt(first);
            long before = endsOf(symbol, start);
            long severalBefore = severalEndsOf(symbol);
            int ways = 0;
            for (int place = first + 1; place < behind && before != 0; place++) {
                ways = waysBetween(before, severalBefore, rules.symbolAt(place), end);
                if (ways > 0) {
                    reach[place] |= bit(end);
                }
                if (ways == SEVERAL) {
                    severalReach[place] |= bit(end);
                }
                before = reach[place];
                severalBefore = severalReach[place];
            }
            return ways;
        }

        /** How many ways there are to go on from one of the places before by a symbol to an end. */
        private int waysBetween(long before, long severalBefore, int symbol, int end) {
            long joints = before & startsOf(symbol, end);
            if (joints == 0) {
                return 0;
            }
            boolean oneJoint = (joints & (joints - 1)) == 0;
            long several = severalBefore | severalStartsOf(symbol, end);
            return oneJoint && (joints & several) == 0 ? 1 : SEVERAL;
        }

        /** Where a rule's first symbol may end, from the start at hand. */
        private long endsOf(int symbol, int start) {
            int rank = symbols.typeRankOf(symbol);
            if (isRank(rank)) {
                return ends[rank];
            }
            return row.symbolAt(start) == symbol ? bit(start + 1) : 0;
        }

        private long severalEndsOf(int symbol) {
            int rank = symbols.typeRankOf(symbol);
            return isRank(rank) ? severalEnds[rank] : 0;
        }

        private void addTrees(int sort, int more) {
            int rank = symbols.rankOf(sort);
            if (!isRank(rank)) {
                return;
            }
            int room = Math.min(SEVERAL - found[rank], queue.length - queued);
            for (int tree = 0; tree < more && tree < room; tree++) {
                found[rank]++;
                queue[queued] = rank;
                queued++;
            }
        }

        /**
         * Each tree stands in one more tree for each rule of one variable of its sort. Only two
         * trees of a sort are queued, so that trees in trees without end come to an end here.
         */
        private void wrapTrees() {
            for (int tree = 0; tree < queued && tree < queue.length; tree++) {
                int rule = rules.newestWrap(queue[tree]);
                for (int left = MOST_RULES; left > 0 && rule != NONE; left--) {
                    if (rule < usable) {
                        addTrees(rules.sortOf(rule), 1);
                    }
                    rule = rules.olderWrap(rule);
                }
            }
        }

        private void keepFound(int start, int end) {
            for (int rank = 0; rank < symbols.sorts(); rank++) {
                int place = rank * ENDS + end;
                if (found[rank] > 0) {
                    starts[place] |= bit(start);
                    ends[rank] |= bit(end);
                }
                if (found[rank] == SEVERAL) {
                    severalStarts[place] |= bit(start);
                    severalEnds[rank] |= bit(end);
                }
            }
        }
    }

    /** The only tree that was made, its nodes numbered so that parts come behind their node. */
    private static final class Tree {
        private final Symbols symbols;
        private final Rules rules;
        private final Chart chart;
        /** The row that the tree was made for, which outlives the row at hand. */
        private final Row madeFor = new Row();
        private final int[] ruleOf = new int[MOST_NODES];
        private final int[] sortOf = new int[MOST_NODES];
        private final int[] startOf = new int[MOST_NODES];
        private final int[] endOf = new int[MOST_NODES];
        private final int[] firstPart = new int[MOST_NODES];
        private final int[] partCount = new int[MOST_NODES];
        /** How many nodes stand in a node, with itself, and how many are told before all these. */
        private final int[] weight = new int[MOST_NODES];
        private final int[] toldBefore = new int[MOST_NODES];
        private final int[] told = new int[MOST_NODES];
        /** By a place in the rule at hand: from where the rule from there on may be the rest. */
        private final long[] rests = new long[LONGEST_RULE + 1];
        private int size;

        Tree(Symbols symbols, Rules rules, Chart chart) {
            this.symbols = symbols;
            this.rules = rules;
            this.chart = chart;
        }

        int size() {
            return size;
        }

        int toldAt(int k) {
            return k >= 0 && k < size ? told[k] : NONE;
        }

        int detail(int k, int what) {
            if (k < 0 || k >= size) {
                return NONE;
            }
            switch (what) {
                case 0:
                    return ruleOf[k];
                case 1:
                    return sortOf[k];
                case 2:
                    return startOf[k];
                case 3:
                    return endOf[k];
                case 4:
                    return firstPart[k];
                case 5:
                    return partCount[k];
                default:
                    return NONE;
            }
        }

        /** The row has just one tree, and the chart is filled for it by the same first rules. */
        int build(Row row, int sort, int firstRules) {
            madeFor.copy(row);
            size = 0;
            append(sort, 0, row.length());
            for (int k = 0; k < size && k < MOST_NODES; k++) {
                grow(k, firstRules);
            }
            weigh();
            tell();
            return size;
        }

        boolean holds() {
            for (int k = 0; k < size; k++) {
                boolean right = ruleOf[k] == NONE ? isVariableAlone(k) : isRuleWithParts(k);
                if (!right) {
                    return false;
                }
            }
            return true;
        }

        private boolean append(int sort, int start, int end) {
            if (size >= MOST_NODES) {
                return false;
            }
            ruleOf[size] = NONE;
            sortOf[size] = sort;
            startOf[size] = start;
            endOf[size] = end;
            firstPart[size] = NONE;
            partCount[size] = 0;
            size++;
            return true;
        }

        private void grow(int k, int firstRules) {
            if (isVariableAlone(k)) {
                return;
            }
            for (int rule = 0; rule < firstRules; rule++) {
                if (rules.sortOf(rule) == sortOf[k] && fits(rule, startOf[k], endOf[k])) {
                    ruleOf[k] = rule;
                    appendParts(k, rule);
                    return;
                }
            }
        }

        private boolean isVariableAlone(int k) {
            int symbol = madeFor.symbolAt(startOf[k]);
            return endOf[k] == startOf[k] + 1
                    && symbols.isVariable(symbol)
                    && symbols.typeOf(symbol) == sortOf[k];
        }

        /** Whether a rule may be a stretch; leaves in rests how. */
        private boolean fits(int rule, int start, int end) {
            int length = rules.lengthOf(rule);
            if (length > end - start || length > LONGEST_RULE) {
                return false;
            }
            int first = rules.firstOf(rule);
            rests[length] = bit(end);
            for (int place = length - 1; place >= 0; place--) {
                rests[place] = startsOf(rules.symbolAt(first + place), rests[place + 1]);
            }
            return hasBit(rests[0], start);
        }

        /** From where a symbol may stand for a stretch up to one of these ends. */
        private long startsOf(int symbol, long ends) {
            long starts = 0;
            for (int end = 1; end <= madeFor.length(); end++) {
                if (hasBit(ends, end)) {
                    starts |= chart.startsOf(symbol, end);
                }
            }
            return starts;
        }

        private void appendParts(int k, int rule) {
            int first = rules.firstOf(rule);
            int length = Math.min(rules.lengthOf(rule), LONGEST_RULE);
            int start = startOf[k];
            for (int place = 0; place < length; place++) {
                int symbol = rules.symbolAt(first + place);
                int end = endAmong(rests[place + 1], symbol, start);
                if (symbols.isVariable(symbol) && append(symbols.typeOf(symbol), start, end)) {
                    partCount[k]++;
                    firstPart[k] = size - partCount[k];
                }
                start = end;
            }
        }

        /** The one of these ends up to which a symbol may stand from a start. */
        private int endAmong(long ends, int symbol, int start) {
            for (int end = start + 1; end < madeFor.length(); end++) {
                if (hasBit(ends, end) && hasBit(chart.startsOf(symbol, end), start)) {
                    return end;
                }
            }
            return madeFor.length();
        }

        private void weigh() {
            for (int k = size - 1; k >= 0; k--) {
                weight[k] = 1;
                for (int part = 0; part < partCount[k]; part++) {
                    weight[k] += weight[firstPart[k] + part];
                }
            }
        }

        private void tell() {
            toldBefore[0] = 0;
            for (int k = 0; k < size; k++) {
                int before = toldBefore[k];
                for (int part = 0; part < partCount[k]; part++) {
                    toldBefore[firstPart[k] + part] = before;
                    before += weight[firstPart[k] + part];
                }
                told[before] = ruleOf[k] == NONE ? -2 - madeFor.symbolAt(startOf[k]) : ruleOf[k];
            }
        }

        private boolean isRuleWithParts(int k) {
            int rule = ruleOf[k];
            int first = rules.firstOf(rule);
            int at = startOf[k];
            int parts = 0;
            for (int place = 0; place < rules.lengthOf(rule); place++) {
                int symbol = rules.symbolAt(first + place);
                if (symbols.isVariable(symbol)) {
                    int part = firstPart[k] + parts;
                    if (!isPart(part, symbol, at)) {
                        return false;
                    }
                    at = endOf[part];
                    parts++;
                } else {
                    if (madeFor.symbolAt(at) != symbol) {
                        return false;
                    }
                    at++;
                }
            }
            return rules.sortOf(rule) == sortOf[k] && at == endOf[k] && parts == partCount[k];
        }

        private boolean isPart(int part, int variable, int start) {
            return part > 0
                    && part < size
                    && sortOf[part] == symbols.typeOf(variable)
                    && startOf[part] == start;
        }
    }
}
