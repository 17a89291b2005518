/** An object under test, with the calls that make expressions under plain names. */
final class Bench {
    static final int BIG = 1000000000;
    static final int MIN = Integer.MIN_VALUE;
    static final int MAX = Integer.MAX_VALUE;

    final TypeForecast x = new TypeForecast();

    int number(int n) {
        return x.leaf(0, n);
    }

    int text(int length) {
        return x.leaf(1, length);
    }

    int none() {
        return x.leaf(2, 0);
    }

    int variable(int v) {
        return x.leaf(3, v);
    }

    int input() {
        return x.leaf(4, 0);
    }

    int add(int a, int b) {
        return x.apply(0, a, b);
    }

    int subtract(int a, int b) {
        return x.apply(1, a, b);
    }

    int multiply(int a, int b) {
        return x.apply(2, a, b);
    }

    int divide(int a, int b) {
        return x.apply(3, a, b);
    }

    int less(int a, int b) {
        return x.apply(4, a, b);
    }

    int equal(int a, int b) {
        return x.apply(5, a, b);
    }

    int not(int a) {
        return x.apply(6, a, 0);
    }

    int length(int a) {
        return x.apply(7, a, 0);
    }

    /** An expression of a weight from 1 to 15; the latest one that it makes. */
    int heavy(int weight) {
        int one = number(1);
        int e = weight % 2 == 0 ? not(one) : one;
        for (int at = weight % 2 == 0 ? 2 : 1; at < weight; at += 2) {
            e = add(e, one);
        }
        return e;
    }

    /** Gives the variable one of the values of these expressions: which, no one can foresee. */
    void oneOf(int v, int... expressions) {
        x.assign(v, expressions[0]);
        for (int i = 1; i < expressions.length; i++) {
            perhaps(v, expressions[i]);
        }
    }

    /** Gives the variable this value, or leaves it as it is. */
    void perhaps(int v, int e) {
        x.branch(input());
        x.assign(v, e);
        x.end();
    }

    /** A branch whose blocks hold a statement each; answers the two statements. */
    int[] fork(int condition) {
        int mark = number(0);
        x.branch(condition);
        int first = x.assign(4, mark);
        x.otherwise();
        int second = x.assign(4, mark);
        x.end();
        return new int[] {first, second};
    }

    void endAll() {
        for (int i = 0; i < 5; i++) {
            x.end();
        }
    }
}
