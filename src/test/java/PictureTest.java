/**
 * The operations and the narrowing (promises 13 to 16) on all pairs out of many pictures, compared
 * with the reference, which tries the values one after the other.
 */
public final class PictureTest {
    private static final Check CHECK = new Check();
    /** Each row: the leaves that are joined, as pairs of kind and number. */
    private static final int[][] PICTURES = {
        {0, 0}, {0, 1}, {0, -1}, {0, 5}, {0, 16}, {0, 17}, {0, -16}, {0, -17}, {4, 0},
        {0, 0, 0, 1}, {0, -1, 0, 0}, {0, -1, 0, 1}, {0, 2, 0, 3}, {0, -3, 0, -2}, {0, -5, 0, 4},
        {0, 1, 0, 17}, {0, 0, 0, 17}, {0, -1, 0, 17}, {0, -17, 0, -1}, {0, -17, 0, 0},
        {0, -17, 0, 1}, {0, 3, 0, 16}, {0, -16, 0, -7}, {0, -4, 0, 17}, {0, -17, 0, 9},
        {1, 0}, {1, 1}, {1, 7}, {1, 16}, {1, 17}, {1, 0, 1, 1}, {1, 0, 1, 17}, {1, 2, 1, 5},
        {1, 4, 1, 16}, {1, 3, 1, 17}, {2, 0},
        {0, 0, 2, 0}, {0, 3, 1, 3}, {0, 3, 1, 0, 2, 0}, {1, 4, 2, 0}, {0, -2, 0, 6, 1, 3},
        {4, 0, 1, 1, 1, 17}, {0, 2, 1, 2, 1, 6}, {0, 16, 0, 17, 2, 0}, {1, 0, 1, 3, 2, 0},
    };

    private final Subject x = new Subject();
    private final Reference r = new Reference();
    private final String name;

    private PictureTest(int[] left, int[] right, String name) {
        this.name = name;
        hold(0, left);
        hold(1, right);
    }

    public static void main(String[] args) {
        for (int i = 0; i < PICTURES.length; i++) {
            for (int j = 0; j < PICTURES.length; j++) {
                String pair = "pictures " + i + " and " + j + ", ";
                for (int operation = 0; operation < 8; operation++) {
                    new PictureTest(PICTURES[i], PICTURES[j], pair + "operation " + operation)
                            .operate(operation);
                }
                new PictureTest(PICTURES[i], PICTURES[j], pair + "narrowed").narrow();
                new PictureTest(PICTURES[i], PICTURES[j], pair + "by itself").narrowByItself();
            }
        }
        CHECK.finish();
    }

    private int leaf(int kind, int n) {
        r.leaf(kind, n);
        return x.leaf(kind, n);
    }

    private int apply(int operation, int a, int b) {
        r.apply(operation, a, b);
        return x.apply(operation, a, b);
    }

    private void assign(int v, int e) {
        r.assign(v, e);
        x.assign(v, e);
    }

    private void attempt() {
        r.attempt(0);
        x.attempt(0);
    }

    private void branch(int e) {
        r.branch(e);
        x.branch(e);
    }

    private void otherwise() {
        r.otherwise();
        x.otherwise();
    }

    private void end() {
        r.end();
        x.end();
    }

    /** Lets a variable hold one of some leaves, by a branch for each but the first. */
    private void hold(int v, int[] leaves) {
        assign(v, leaf(leaves[0], leaves[1]));
        for (int i = 2; i < leaves.length; i += 2) {
            branch(leaf(4, 0));
            assign(v, leaf(leaves[i], leaves[i + 1]));
            end();
        }
    }

    private void operate(int operation) {
        assign(2, apply(operation, leaf(3, 0), leaf(3, 1)));
        compare();
    }

    private void narrow() {
        int a = leaf(3, 0);
        int b = leaf(3, 1);
        branchOn(a);
        branchOn(apply(4, a, b));
        branchOn(apply(5, a, b));
        compare();
    }

    private void narrowByItself() {
        int a = leaf(3, 0);
        branchOn(apply(4, a, a));
        branchOn(apply(5, a, a));
        compare();
    }

    /** The variable's picture in each block is kept in another variable. */
    private void branchOn(int condition) {
        attempt();
        branch(condition);
        assign(2, leaf(3, 0));
        otherwise();
        assign(3, leaf(3, 0));
        end();
        end();
    }

    private void compare() {
        CHECK.same(name + ": look", x.look(), r.look());
        for (int s = -1; s < r.statements(); s++) {
            for (int v = 0; v < 5; v++) {
                CHECK.same(name + ": seen " + s + " " + v, x.seen(s, v), r.seen(s, v));
                for (int which = 0; which < 4; which++) {
                    CHECK.same(name + ": bound " + s + " " + v + " " + which,
                            x.bound(s, v, which), r.bound(s, v, which));
                }
            }
            for (int kind = 1; kind <= 4 && s >= 0; kind++) {
                CHECK.same(name + ": alarm " + kind + " " + s, x.alarm(kind, s) ? 1 : 0,
                        r.alarm(kind, s) ? 1 : 0);
            }
        }
    }
}
