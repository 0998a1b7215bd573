import java.lang.reflect.Field;

/**
 * check() would tell 0: no call can bring that about, so this test spoils the tree inside the
 * object, one number at a time.
 */
public final class CheckTest {
    private static final int NONE = SyntaxTrees.NONE;

    private CheckTest() {
    }

    public static void main(String[] args) {
        Words.say(14, "Whether each node's stretch is that of its rule with its parts", CheckTest::made);
        Words.say(14, "it would tell 0", CheckTest::spoilAll);
        Due.end();
    }

    private static void spoilAll() {
        SyntaxTrees x = made();
        Object tree = inside(x, "tree");
        int nodes = x.count(5);
        for (int k = 0; k < nodes; k++) {
            spoil(x, tree, "ruleOf", k);
            spoil(x, tree, "sortOf", k);
            spoil(x, tree, "startOf", k);
            spoil(x, tree, "endOf", k);
            if (x.node(k, 0) != NONE) {
                spoil(x, tree, "partCount", k);
            }
            if (x.node(k, 5) > 0) {
                spoil(x, tree, "firstPart", k);
            }
        }
        for (int place = 0; place < x.count(4); place++) {
            spoil(x, inside(tree, "madeFor"), "row", place);
        }
    }

    /** 0 expr, 1 term, 2 plus, 3 times, 4 one, 5 e, 6 t, 7 u: the row u * 1 + t * u. */
    private static SyntaxTrees made() {
        SyntaxTrees x = new SyntaxTrees();
        int[] types = {NONE, NONE, NONE, NONE, NONE, 0, 1, 1};
        for (int type : types) {
            x.symbol(type);
        }
        int[][] rules = {{0, 5, 2, 6}, {0, 6}, {1, 6, 3, 7}, {1, 4}};
        for (int[] rule : rules) {
            x.begin(rule[0]);
            for (int k = 1; k < rule.length; k++) {
                x.put(rule[k]);
            }
            x.close();
        }
        int[] row = {7, 3, 4, 2, 6, 3, 7};
        for (int symbol : row) {
            x.add(symbol);
        }
        Due.due("make", x.make(0, 9), 8);
        Due.due("check", x.check(), 1);
        return x;
    }

    private static Object inside(Object object, String name) {
        try {
            Field field = object.getClass().getDeclaredField(name);
            field.setAccessible(true);
            return field.get(object);
        } catch (ReflectiveOperationException failure) {
            throw new IllegalStateException(failure);
        }
    }

    private static void spoil(SyntaxTrees x, Object holder, String name, int k) {
        int[] numbers = (int[]) inside(holder, name);
        int right = numbers[k];
        for (int wrong = -3; wrong <= 10; wrong++) {
            // One variable of a type in the place of another one is right as well.
            boolean alike = name.equals("row") && right >= 6 && right <= 7 && wrong >= 6 && wrong <= 7;
            if (wrong != right && !alike) {
                numbers[k] = wrong;
                Due.due("check with " + name + " of " + k + " = " + wrong, x.check(), 0);
            }
        }
        numbers[k] = right;
        Due.due("check with " + name + " of " + k + " right", x.check(), 1);
    }
}
