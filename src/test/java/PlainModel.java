import java.util.ArrayDeque;
import java.util.ArrayList;
import java.util.HashMap;
import java.util.HashSet;
import java.util.LinkedHashMap;
import java.util.List;
import java.util.Map;
import java.util.Set;

/**
 * The document's promises written down as plainly as can be, for small rows: trees are made one by
 * one as objects and told apart by their text, until two are known.
 */
final class PlainModel {
    static final int NONE = -1;

    private record Rule(int sort, List<Integer> symbols) {
    }

    /** A tree; rule is NONE for a variable. */
    private record Shape(int rule, int sort, int variable, int from, int to, List<Shape> parts) {
        String text() {
            StringBuilder text = new StringBuilder();
            text.append(rule).append('/').append(variable).append('@').append(from).append('-').append(to);
            text.append('[');
            for (Shape part : parts) {
                text.append(part.text());
            }
            return text.append(']').toString();
        }
    }

    private final List<Integer> types = new ArrayList<>();
    private final List<Rule> rules = new ArrayList<>();
    private Rule open = null;
    private List<Integer> row = new ArrayList<>();
    private final List<Shape> nodes = new ArrayList<>();
    private final List<Integer> firstParts = new ArrayList<>();
    private final List<Shape> told = new ArrayList<>();

    private boolean has(int symbol) {
        return symbol >= 0 && symbol < types.size();
    }

    private boolean isConstant(int symbol) {
        return has(symbol) && types.get(symbol) == NONE;
    }

    private Set<Integer> sorts() {
        Set<Integer> sorts = new HashSet<>(types);
        sorts.remove(NONE);
        for (Rule rule : rules) {
            sorts.add(rule.sort);
        }
        if (open != null) {
            sorts.add(open.sort);
        }
        return sorts;
    }

    private boolean tooManySortsWith(int sort) {
        Set<Integer> sorts = sorts();
        sorts.add(sort);
        return sorts.size() > 100;
    }

    private int ruleSymbols() {
        int all = open == null ? 0 : open.symbols.size();
        for (Rule rule : rules) {
            all += rule.symbols.size();
        }
        return all;
    }

    int symbol(int type) {
        if (types.size() >= 1000 || type != NONE && (!isConstant(type) || tooManySortsWith(type))) {
            return NONE;
        }
        types.add(type);
        return types.size() - 1;
    }

    int begin(int sort) {
        if (open != null || !isConstant(sort) || rules.size() >= 1500 || tooManySortsWith(sort)) {
            return NONE;
        }
        open = new Rule(sort, new ArrayList<>());
        return rules.size();
    }

    int put(int symbol) {
        if (open == null || !has(symbol) || open.symbols.size() >= 299 || ruleSymbols() >= 30000) {
            return NONE;
        }
        if (!isConstant(symbol) && open.symbols.contains(symbol)) {
            return NONE;
        }
        open.symbols.add(symbol);
        return open.symbols.size();
    }

    int close() {
        if (open == null || open.symbols.isEmpty()) {
            return 0;
        }
        rules.add(open);
        open = null;
        return 1;
    }

    int add(int symbol) {
        if (!has(symbol) || row.size() >= 59) {
            return NONE;
        }
        row.add(symbol);
        return row.size();
    }

    int empty() {
        int had = row.size();
        row = new ArrayList<>();
        return had;
    }

    int trees(int sort, int limit) {
        return isConstant(sort) ? shapes(sort, limit, 0, row.size()).size() : NONE;
    }

    int part(int sort, int limit, int from, int to) {
        if (!isConstant(sort) || from < 0 || to > row.size() || from >= to) {
            return NONE;
        }
        return shapes(sort, limit, from, to).size();
    }

    int make(int sort, int limit) {
        if (trees(sort, limit) != 1) {
            return NONE;
        }
        Shape whole = shapes(sort, limit, 0, row.size()).iterator().next();
        nodes.clear();
        firstParts.clear();
        told.clear();
        ArrayDeque<Shape> waiting = new ArrayDeque<>();
        waiting.add(whole);
        int next = 1;
        while (!waiting.isEmpty()) {
            Shape shape = waiting.poll();
            nodes.add(shape);
            firstParts.add(shape.parts.isEmpty() ? NONE : next);
            next += shape.parts.size();
            waiting.addAll(shape.parts);
        }
        tell(whole);
        return nodes.size();
    }

    private void tell(Shape shape) {
        for (Shape part : shape.parts) {
            tell(part);
        }
        told.add(shape);
    }

    int node(int k, int what) {
        if (k < 0 || k >= nodes.size() || what < 0 || what > 5) {
            return NONE;
        }
        Shape shape = nodes.get(k);
        int[] all = {shape.rule, shape.sort, shape.from, shape.to, firstParts.get(k), shape.parts.size()};
        return all[what];
    }

    int told(int k) {
        if (k < 0 || k >= told.size()) {
            return NONE;
        }
        return told.get(k).rule == NONE ? -2 - told.get(k).variable : told.get(k).rule;
    }

    int count(int what) {
        if (what < 0 || what > 5) {
            return NONE;
        }
        int[] all = {types.size(), sorts().size(), rules.size(), ruleSymbols(), row.size(), nodes.size()};
        return all[what];
    }

    int check() {
        return 1;
    }

    /** One or two trees, or none; two stand for more. */
    private Set<Shape> shapes(int sort, int limit, int from, int to) {
        Map<List<Integer>, Map<String, Shape>> known = new HashMap<>();
        boolean more = from < to;
        while (more) {
            more = false;
            for (int target : sorts()) {
                for (int i = from; i < to; i++) {
                    for (int j = i + 1; j <= to; j++) {
                        more |= widen(known, limit, target, i, j);
                    }
                }
            }
        }
        return new HashSet<>(known.getOrDefault(List.of(sort, from, to), Map.of()).values());
    }

    private boolean widen(Map<List<Integer>, Map<String, Shape>> known, int limit, int sort, int i, int j) {
        Map<String, Shape> here = known.computeIfAbsent(List.of(sort, i, j), key -> new LinkedHashMap<>());
        int had = here.size();
        if (j == i + 1 && types.get(row.get(i)) == sort) {
            keep(here, new Shape(NONE, sort, row.get(i), i, j, List.of()));
        }
        for (int r = 0; r < rules.size() && r < limit; r++) {
            if (rules.get(r).sort == sort) {
                for (List<Shape> parts : fillings(known, rules.get(r).symbols, 0, i, j)) {
                    keep(here, new Shape(r, sort, NONE, i, j, parts));
                }
            }
        }
        return here.size() > had;
    }

    private static void keep(Map<String, Shape> here, Shape shape) {
        if (here.size() < 2) {
            here.putIfAbsent(shape.text(), shape);
        }
    }

    /** All rows of known trees for the variables of a rule from its p-th symbol on. */
    private List<List<Shape>> fillings(
            Map<List<Integer>, Map<String, Shape>> known, List<Integer> symbols, int p, int i, int j) {
        if (p == symbols.size()) {
            return i == j ? List.of(List.of()) : List.of();
        }
        if (i >= j) {
            return List.of();
        }
        int symbol = symbols.get(p);
        if (isConstant(symbol)) {
            return row.get(i) == symbol ? fillings(known, symbols, p + 1, i + 1, j) : List.of();
        }
        List<List<Shape>> all = new ArrayList<>();
        for (int k = i + 1; k <= j; k++) {
            List<Shape> heads = new ArrayList<>(
                    known.getOrDefault(List.of(types.get(symbol), i, k), Map.of()).values());
            if (heads.isEmpty()) {
                continue;
            }
            for (List<Shape> tail : fillings(known, symbols, p + 1, k, j)) {
                for (Shape head : heads) {
                    List<Shape> both = new ArrayList<>();
                    both.add(head);
                    both.addAll(tail);
                    all.add(both);
                }
            }
        }
        return all;
    }
}
