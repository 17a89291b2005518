/**
 * Pictures, which promises 13 to 16 lean on: each sentence of the terms that names a boundary
 * case.
 */
public final class PictureBoundaryTest {
    private static final Check CHECK = new Check();
    private static final int BIG = Bench.BIG;
    /** The bounds that say that there is none. */
    private static final int LOW = -17;
    private static final int HIGH = 17;
    private static final String RESULTS =
            "its picture fits the results of all pairs that raise nothing";

    public static void main(String[] args) {
        boundsOfOneNumber();
        boundsOfOneLength();
        boundsThatAreNotThere();
        boundsBelongToTheRange();
        lowBoundOfResults();
        highBoundOfResults();
        numbersWithoutLimit();
        pictureStandsForAllItsValues();
        leavesInPictures();
        variableThatMayBeUnbound();
        partsWithoutValue();
        rightPartWithoutValue();
        errorsOfPartsAndPairs();
        sumsAndDifferences();
        products();
        quotients();
        comparisonsOfNumbers();
        comparisonsOfLengths();
        equality();
        truthAndLength();
        typesThatOnlyOnePartHas();
        expressionThatStandsInTwoStatements();
        picturesOfSeveralTypes();
        joinedTypes();
        joinedBounds();
        CHECK.finish();
    }

    /** The picture of an operation of two numbers must have these bounds. */
    private static void fits(int operation, int left, int right, int low, int high) {
        Bench b = new Bench();
        b.x.assign(0, b.x.apply(operation, b.number(left), b.number(right)));
        b.x.look();
        String what = "operation " + operation + " of " + left + " and " + right;
        CHECK.numbers(what, b.x, -1, 0, low, high);
        CHECK.same("and no other type", b.x.seen(-1, 0), 1);
    }

    private static void boundsOfOneNumber() {
        CHECK.sentence("terms of promise 16",
                "low is -17 if they have no least one or it is below -16, 16 if it is"
                        + " above 16, otherwise it; high is 17 if they have no greatest one or it"
                        + " is above 16, -16 if it is below -16, otherwise it");
        int[][] due = {{-BIG, LOW, -16}, {-18, LOW, -16}, {-17, LOW, -16}, {-16, -16, -16},
            {-15, -15, -15}, {-1, -1, -1}, {0, 0, 0}, {1, 1, 1}, {15, 15, 15}, {16, 16, 16},
            {17, 16, HIGH}, {18, 16, HIGH}, {BIG, 16, HIGH}};
        for (int[] d : due) {
            Bench b = new Bench();
            b.x.assign(0, b.number(d[0]));
            b.x.look();
            CHECK.numbers("the number " + d[0], b.x, -1, 0, d[1], d[2]);
        }
    }

    private static void boundsOfOneLength() {
        CHECK.sentence("terms of promise 16", "for texts a low and a high bound of their lengths");
        int[][] due = {{0, 0, 0}, {1, 1, 1}, {15, 15, 15}, {16, 16, 16}, {17, 16, HIGH},
            {18, 16, HIGH}, {BIG, 16, HIGH}};
        for (int[] d : due) {
            Bench b = new Bench();
            b.x.assign(0, b.text(d[0]));
            b.x.look();
            CHECK.lengths("a text of length " + d[0], b.x, -1, 0, d[1], d[2]);
            CHECK.same("and no number", b.x.seen(-1, 0), 2);
        }
    }

    private static void boundsThatAreNotThere() {
        CHECK.sentence("terms of promise 16",
                "A low bound -17 says that there is no low bound, a high bound 17 that"
                        + " there is no high bound");
        Bench b = new Bench();
        int one = b.number(1);
        int up = b.variable(0);
        int down = b.variable(1);
        b.x.assign(0, one);
        b.x.assign(1, one);
        b.x.assign(2, b.number(-17));
        b.x.assign(3, b.number(17));
        int loop = b.x.loop(b.input());
        b.x.assign(0, b.add(up, one));
        b.x.assign(1, b.subtract(down, one));
        b.x.end();
        b.x.assign(2, b.subtract(b.variable(2), one));
        b.x.assign(3, b.add(b.variable(3), one));
        b.x.look();
        CHECK.numbers("it grows on and on", b.x, loop, 0, 1, HIGH);
        CHECK.numbers("it shrinks on and on", b.x, loop, 1, LOW, 1);
        CHECK.numbers("one less than -17", b.x, -1, 2, LOW, -16);
        CHECK.numbers("one more than 17", b.x, -1, 3, 16, HIGH);
        b.x.assign(2, b.add(b.variable(2), b.number(3)));
        b.x.assign(3, b.subtract(b.variable(3), b.number(3)));
        b.x.look();
        CHECK.numbers("no low bound plus 3", b.x, -1, 2, LOW, -13);
        CHECK.numbers("no high bound less 3", b.x, -1, 3, 13, HIGH);
    }

    private static void boundsBelongToTheRange() {
        CHECK.sentence("terms of promise 16",
                "other bounds are -16 .. 16, and belong to the range");
        for (int n : new int[] {-16, -1, 0, 1, 16}) {
            Bench b = new Bench();
            int v = b.variable(0);
            b.x.assign(0, b.number(n));
            int[] same = b.fork(b.equal(v, b.number(n)));
            int[] less = b.fork(b.less(v, b.number(n)));
            b.x.look();
            CHECK.same(n + " is " + n, b.x.seen(same[0], 0), 1);
            CHECK.same(n + " is nothing else", b.x.seen(same[1], 0), 0);
            CHECK.same(n + " is not less", b.x.seen(less[0], 0), 0);
            CHECK.same(n + " is at least as much", b.x.seen(less[1], 0), 1);
        }
    }

    private static void lowBoundOfResults() {
        CHECK.sentence("terms of promise 16",
                "low is -17 if they have no least one or it is below -16, 16 if it is above 16");
        fits(0, -15, -1, -16, -16);
        fits(0, -16, -1, LOW, -16);
        fits(1, -15, 1, -16, -16);
        fits(1, -16, 1, LOW, -16);
        fits(2, 4, -4, -16, -16);
        fits(2, 3, -6, LOW, -16);
        fits(0, 15, 1, 16, 16);
        fits(0, 16, 1, 16, HIGH);
        fits(2, 16, 16, 16, HIGH);
    }

    private static void highBoundOfResults() {
        CHECK.sentence("terms of promise 16",
                "high is 17 if they have no greatest one or it is above 16, -16 if it"
                        + " is below -16");
        int[][] cases = {{-16, 16, 1}, {-16, 16, 2}, {-17, 0, 0}, {0, 17, 0}, {-3, 5, 3},
            {-3, 5, 4}, {-2, 8, 2}};
        int[][] due = {{-16, 16}, {LOW, HIGH}, {0, 0}, {0, 0}, {-9, 15}, {-12, HIGH}, {-4, 16}};
        for (int i = 0; i < cases.length; i++) {
            Bench b = new Bench();
            b.oneOf(0, b.number(cases[i][0]), b.number(cases[i][1]));
            b.x.assign(1, b.multiply(b.variable(0), b.number(cases[i][2])));
            b.x.look();
            String what = cases[i][0] + " .. " + cases[i][1] + " times " + cases[i][2];
            CHECK.numbers(what, b.x, -1, 1, due[i][0], due[i][1]);
        }
    }

    private static void numbersWithoutLimit() {
        CHECK.sentence("terms of promises 13 and 16",
                "Whole numbers without any limit are meant here.");
        int[][] over = {{0, BIG, BIG}, {0, BIG, 1}, {1, BIG, -BIG}, {2, BIG, BIG}, {2, -BIG, -BIG},
            {2, 65536, 65536}};
        for (int[] c : over) {
            fits(c[0], c[1], c[2], 16, HIGH);
        }
        int[][] under = {{0, -BIG, -BIG}, {0, -BIG, -1}, {1, -BIG, BIG}, {2, BIG, -BIG},
            {2, 65536, -65536}};
        for (int[] c : under) {
            fits(c[0], c[1], c[2], LOW, -16);
        }
        Bench b = new Bench();
        int longest = b.text(BIG);
        b.x.assign(0, b.add(longest, longest));
        CHECK.same("a run is out there", b.x.run(1), -2);
        CHECK.same("a look finds no error", b.x.look(), 0);
        CHECK.lengths("too long for a run", b.x, -1, 0, 16, HIGH);
    }

    private static void pictureStandsForAllItsValues() {
        CHECK.sentence("terms of promises 13 and 16",
                "It stands for all values of its types within these bounds.");
        fits(5, 100, 100, 0, 1);
        fits(5, 100, 200, 0, 1);
        fits(5, -100, -100, 0, 1);
        fits(5, 16, 16, 1, 1);
        fits(5, 16, 17, 0, 1);
        fits(4, 20, 19, 0, 1);
        Bench b = new Bench();
        b.oneOf(0, b.number(-1), b.number(1));
        int quotient = b.x.assign(1, b.divide(b.number(6), b.variable(0)));
        int[] zero = b.fork(b.equal(b.variable(0), b.number(0)));
        CHECK.same("0 lies between -1 and 1", b.x.look(), 1);
        CHECK.yes("alarm", b.x.alarm(3, quotient));
        CHECK.numbers("0 lies between -1 and 1", b.x, zero[0], 0, 0, 0);
    }

    private static void leavesInPictures() {
        CHECK.sentence("terms of promises 15 and 16",
                "a number or text has the picture that fits it alone; none that of none"
                        + " alone; an input that of all numbers");
        Bench b = new Bench();
        b.x.feed(3);
        b.x.assign(0, b.number(-4));
        b.x.assign(1, b.text(4));
        b.x.assign(2, b.none());
        b.x.assign(3, b.input());
        CHECK.same("look()", b.x.look(), 0);
        int[] types = {1, 2, 4, 1, 8};
        int[][] bounds = {{-4, -4, 99, 99}, {99, 99, 4, 4}, {99, 99, 99, 99}, {LOW, HIGH, 99, 99},
            {99, 99, 99, 99}};
        for (int v = 0; v < 5; v++) {
            CHECK.same("seen(-1, " + v + ")", b.x.seen(-1, v), types[v]);
            for (int which = 0; which < 4; which++) {
                CHECK.same("bound(-1, " + v + ", " + which + ")", b.x.bound(-1, v, which),
                        bounds[v][which]);
            }
        }
    }

    private static void variableThatMayBeUnbound() {
        CHECK.sentence("terms of promises 13 to 15",
                "a variable its picture, and if it may be unbound, error 2 MAY BE raised");
        Bench b = new Bench();
        b.perhaps(0, b.text(6));
        int copy = b.x.assign(1, b.variable(0));
        CHECK.same("look()", b.x.look(), 1);
        CHECK.yes("alarm(2, copy)", b.x.alarm(2, copy));
        CHECK.same("the copy", b.x.seen(-1, 1), 2);
        CHECK.lengths("the copy", b.x, -1, 1, 6, 6);
        CHECK.same("what was copied", b.x.seen(-1, 0), 10);
        b.x.assign(0, b.none());
        int bound = b.x.assign(2, b.variable(0));
        CHECK.same("look()", b.x.look(), 1);
        CHECK.no("no error when it is bound", b.x.alarm(2, bound));
    }

    private static void partsWithoutValue() {
        CHECK.sentence("terms of promises 13 and 14",
                "when a part stands for no value at all, nothing more is done and the"
                        + " operation stands for none");
        for (int operation = 0; operation < 8; operation++) {
            Bench b = new Bench();
            int zero = b.number(0);
            int byZero = b.divide(zero, zero);
            int unbound = b.variable(0);
            int s = b.x.assign(1, b.x.apply(operation, unbound, byZero));
            CHECK.same("operation " + operation + ": look()", b.x.look(), 1);
            CHECK.yes("the left part's error", b.x.alarm(2, s));
            CHECK.no("the right part is not worked out", b.x.alarm(3, s));
            CHECK.no("nor the operation", b.x.alarm(1, s));
            CHECK.same("nothing is reached behind it", b.x.seen(-1, 0), 0);
        }
    }

    private static void rightPartWithoutValue() {
        CHECK.sentence("terms of promises 13 and 14",
                "when a part stands for no value at all, nothing more is done and the"
                        + " operation stands for none");
        for (int operation = 0; operation < 6; operation++) {
            Bench b = new Bench();
            int s = b.x.assign(1, b.x.apply(operation, b.none(), b.variable(0)));
            CHECK.same("operation " + operation + ": look()", b.x.look(), 1);
            CHECK.yes("the right part's error", b.x.alarm(2, s));
            CHECK.no("the operation is not done", b.x.alarm(1, s));
            CHECK.same("nothing is reached behind it", b.x.seen(-1, 0), 0);
        }
    }

    private static void errorsOfPartsAndPairs() {
        CHECK.sentence("terms of promises 13 and 14",
                "those of its parts that were worked out, and those that the operation"
                        + " raises for at least one pair of values");
        Bench b = new Bench();
        int none = b.none();
        b.oneOf(0, b.number(0), none);
        b.perhaps(1, b.number(0));
        int s = b.x.assign(2, b.divide(b.variable(0), b.variable(1)));
        CHECK.same("look()", b.x.look(), 3);
        CHECK.yes("none / 0", b.x.alarm(1, s));
        CHECK.yes("the right part is unbound", b.x.alarm(2, s));
        CHECK.yes("0 / 0", b.x.alarm(3, s));
        CHECK.same("no pair gives a value", b.x.seen(-1, 0), 0);

        Bench c = new Bench();
        c.oneOf(0, c.text(3), c.none());
        s = c.x.assign(1, c.divide(c.variable(0), c.number(0)));
        CHECK.same("no number is divided by 0", c.x.look(), 1);
        CHECK.yes("only error 1", c.x.alarm(1, s));

        Bench d = new Bench();
        d.oneOf(0, d.number(2), d.text(0));
        s = d.x.assign(1, d.add(d.variable(0), d.variable(0)));
        CHECK.same("the pairs are of all values", d.x.look(), 1);
        CHECK.yes("number and text", d.x.alarm(1, s));
        CHECK.same("both kinds of sums", d.x.seen(-1, 1), 3);
        CHECK.numbers("the sum", d.x, -1, 1, 4, 4);
        CHECK.lengths("the sum", d.x, -1, 1, 0, 0);
    }

    private static void sumsAndDifferences() {
        CHECK.sentence("terms of promise 16", RESULTS);
        fits(0, 17, 17, 16, HIGH);
        fits(0, 17, -1, 15, HIGH);
        fits(0, 17, -17, LOW, HIGH);
        fits(0, -17, 1, LOW, -15);
        fits(1, 17, 17, LOW, HIGH);
        fits(1, -17, 17, LOW, -16);
        fits(1, 17, -17, 16, HIGH);
        fits(1, 16, 17, LOW, 0);
        fits(1, -16, -17, 0, HIGH);
        fits(1, 17, 16, 0, HIGH);
        fits(1, 0, 16, -16, -16);
        fits(1, 0, 17, LOW, -16);
        Bench b = new Bench();
        b.x.assign(0, b.add(b.text(8), b.text(8)));
        b.x.assign(1, b.add(b.text(8), b.text(9)));
        b.x.assign(2, b.add(b.text(0), b.text(0)));
        b.x.assign(3, b.add(b.text(17), b.text(0)));
        b.x.look();
        CHECK.lengths("8 and 8", b.x, -1, 0, 16, 16);
        CHECK.lengths("8 and 9", b.x, -1, 1, 16, HIGH);
        CHECK.lengths("0 and 0", b.x, -1, 2, 0, 0);
        CHECK.lengths("17 and 0", b.x, -1, 3, 16, HIGH);
    }

    private static void products() {
        CHECK.sentence("terms of promise 16", RESULTS);
        fits(2, 4, 4, 16, 16);
        fits(2, 17, 1, 16, HIGH);
        fits(2, 17, 0, 0, 0);
        fits(2, 0, -17, 0, 0);
        fits(2, 17, -1, LOW, -16);
        fits(2, -17, -1, 16, HIGH);
        fits(2, 17, 17, 16, HIGH);
        fits(2, 17, -17, LOW, -16);
        fits(2, -17, -17, 16, HIGH);
        Bench b = new Bench();
        int input = b.input();
        b.x.assign(0, b.multiply(input, b.number(0)));
        b.x.assign(1, b.multiply(input, input));
        b.x.assign(2, b.multiply(input, b.number(-1)));
        b.x.look();
        CHECK.numbers("all numbers times 0", b.x, -1, 0, 0, 0);
        CHECK.numbers("all numbers times all numbers", b.x, -1, 1, LOW, HIGH);
        CHECK.numbers("all numbers times -1", b.x, -1, 2, LOW, HIGH);
        int[][] ranges = {{-5, 1, -3, 2}, {-1, 5, -3, 2}, {-1, 5, -2, 3}, {-5, 1, -2, 3},
            {-17, 0, -1, 0}, {0, 17, -1, 0}};
        int[][] due = {{-10, 15}, {-15, 10}, {-10, 15}, {-15, 10}, {0, HIGH}, {LOW, 0}};
        for (int i = 0; i < ranges.length; i++) {
            Bench c = new Bench();
            int[] r = ranges[i];
            c.oneOf(0, c.number(r[0]), c.number(r[1]));
            c.oneOf(1, c.number(r[2]), c.number(r[3]));
            c.x.assign(2, c.multiply(c.variable(0), c.variable(1)));
            c.x.look();
            CHECK.numbers(r[0] + " .. " + r[1] + " times " + r[2] + " .. " + r[3], c.x, -1, 2,
                    due[i][0], due[i][1]);
        }
    }

    private static void quotients() {
        CHECK.sentence("terms of promise 16", RESULTS);
        fits(3, 17, 2, 8, HIGH);
        fits(3, -17, 2, LOW, -8);
        fits(3, 17, -1, LOW, -16);
        fits(3, 1, 17, 0, 0);
        fits(3, -1, 17, -1, -1);
        fits(3, 1, -17, -1, -1);
        fits(3, -1, -17, 0, 0);
        fits(3, 17, 17, 0, HIGH);
        fits(3, -17, 17, LOW, -1);
        fits(3, 17, -17, LOW, -1);
        fits(3, -17, -17, 0, HIGH);
        fits(3, 0, -17, 0, 0);
        fits(3, 16, 16, 1, 1);
        fits(3, 16, 17, 0, 1);
        int[][] divisors = {{-1, 1}, {0, 2}, {-2, 0}, {0, 17}, {-17, 0}, {-17, 17}};
        int[][] due = {{-7, 7}, {3, 7}, {-7, -4}, {0, 7}, {-7, -1}, {-7, 7}};
        for (int i = 0; i < divisors.length; i++) {
            Bench b = new Bench();
            b.oneOf(0, b.number(divisors[i][0]), b.number(divisors[i][1]));
            int s = b.x.assign(1, b.divide(b.number(7), b.variable(0)));
            String what = "7 / " + divisors[i][0] + " .. " + divisors[i][1];
            CHECK.same(what + ", look()", b.x.look(), 1);
            CHECK.yes(what + ", alarm", b.x.alarm(3, s));
            CHECK.numbers(what, b.x, -1, 1, due[i][0], due[i][1]);
        }
    }

    private static void comparisonsOfNumbers() {
        CHECK.sentence("terms of promise 16", RESULTS);
        fits(4, 15, 16, 1, 1);
        fits(4, 16, 16, 0, 0);
        fits(4, 15, 17, 1, 1);
        fits(4, 16, 17, 0, 1);
        fits(4, 17, 16, 0, 0);
        fits(4, 17, 17, 0, 1);
        fits(4, -16, -17, 0, 0);
        fits(4, -17, -16, 0, 1);
        fits(4, -17, -15, 1, 1);
        fits(4, -17, -17, 0, 1);
        fits(4, -17, 17, 1, 1);
        fits(4, 17, -17, 0, 0);
    }

    private static void lengthsFit(int operation, int left, int right, int low, int high) {
        Bench b = new Bench();
        b.x.assign(0, b.x.apply(operation, b.text(left), b.text(right)));
        b.x.look();
        String what = "operation " + operation + " of lengths " + left + " and " + right;
        CHECK.numbers(what, b.x, -1, 0, low, high);
    }

    private static void comparisonsOfLengths() {
        CHECK.sentence("terms of promise 16", RESULTS);
        lengthsFit(4, 0, 0, 0, 0);
        lengthsFit(4, 0, 1, 1, 1);
        lengthsFit(4, 15, 17, 1, 1);
        lengthsFit(4, 16, 17, 0, 1);
        lengthsFit(4, 17, 16, 0, 0);
        lengthsFit(4, 17, 17, 0, 1);
        lengthsFit(5, 0, 0, 1, 1);
        lengthsFit(5, 0, 1, 0, 0);
        lengthsFit(5, 16, 16, 1, 1);
        lengthsFit(5, 16, 17, 0, 1);
        lengthsFit(5, 15, 17, 0, 0);
        lengthsFit(5, 17, 17, 0, 1);
    }

    private static void equality() {
        CHECK.sentence("terms of promise 16", RESULTS);
        fits(5, 15, 17, 0, 0);
        fits(5, -16, -17, 0, 1);
        fits(5, -15, -17, 0, 0);
        fits(5, -17, 17, 0, 0);
        fits(5, 0, 0, 1, 1);
        fits(5, 0, 1, 0, 0);
        Bench b = new Bench();
        int none = b.none();
        b.oneOf(0, none, b.number(0));
        b.x.assign(1, b.equal(none, none));
        b.x.assign(2, b.equal(b.number(0), b.text(0)));
        b.x.assign(3, b.equal(b.variable(0), none));
        CHECK.same("look()", b.x.look(), 0);
        CHECK.numbers("none and none", b.x, -1, 1, 1, 1);
        CHECK.numbers("number 0 and text 0", b.x, -1, 2, 0, 0);
        CHECK.numbers("none or 0, and none", b.x, -1, 3, 0, 1);
        Bench c = new Bench();
        int lone = c.none();
        c.x.assign(0, c.equal(lone, c.number(0)));
        c.x.assign(1, c.equal(c.text(0), lone));
        c.x.assign(2, c.equal(c.input(), lone));
        c.x.look();
        CHECK.numbers("none and a number", c.x, -1, 0, 0, 0);
        CHECK.numbers("a text and none", c.x, -1, 1, 0, 0);
        CHECK.numbers("all numbers and none", c.x, -1, 2, 0, 0);
    }

    private static void truthAndLength() {
        CHECK.sentence("terms of promise 16", RESULTS);
        Bench b = new Bench();
        b.x.assign(0, b.length(b.text(0)));
        b.x.assign(1, b.length(b.text(16)));
        b.x.assign(2, b.length(b.text(17)));
        b.x.assign(3, b.not(b.input()));
        b.x.look();
        CHECK.numbers("length 0", b.x, -1, 0, 0, 0);
        CHECK.numbers("length 16", b.x, -1, 1, 16, 16);
        CHECK.numbers("length 17", b.x, -1, 2, 16, HIGH);
        CHECK.numbers("NOT of all numbers", b.x, -1, 3, 0, 1);
        Bench c = new Bench();
        c.x.assign(0, c.not(c.number(17)));
        c.x.assign(1, c.not(c.text(17)));
        c.x.assign(2, c.not(c.number(-17)));
        c.oneOf(3, c.number(-1), c.number(1));
        c.x.assign(3, c.not(c.variable(3)));
        c.x.look();
        CHECK.numbers("NOT of 17", c.x, -1, 0, 0, 0);
        CHECK.numbers("NOT of a text of 17", c.x, -1, 1, 0, 0);
        CHECK.numbers("NOT of -17", c.x, -1, 2, 0, 0);
        CHECK.numbers("NOT of -1 .. 1", c.x, -1, 3, 0, 1);
    }

    private static void typesThatOnlyOnePartHas() {
        CHECK.sentence("terms of promise 16", RESULTS);
        int[][] due = {{5, 3, 0, 0}, {3, 5, 1, 1}, {4, 4, 0, 0}};
        for (int[] d : due) {
            Bench b = new Bench();
            b.oneOf(0, b.input(), b.text(d[1]));
            b.oneOf(1, b.input(), b.text(d[0]));
            b.x.assign(2, b.less(b.text(d[0]), b.variable(0)));
            b.x.assign(3, b.less(b.variable(1), b.text(d[1])));
            b.x.look();
            String what = "lengths " + d[0] + " and " + d[1];
            CHECK.numbers(what + ", numbers on the right", b.x, -1, 2, d[2], d[3]);
            CHECK.numbers(what + ", numbers on the left", b.x, -1, 3, d[2], d[3]);
        }
        Bench c = new Bench();
        c.oneOf(0, c.input(), c.text(0), c.text(17));
        c.x.assign(1, c.add(c.variable(0), c.number(1)));
        c.x.assign(2, c.add(c.variable(0), c.text(1)));
        c.x.assign(3, c.equal(c.variable(0), c.none()));
        c.x.look();
        CHECK.same("numbers and a number", c.x.seen(-1, 1), 1);
        CHECK.same("texts and a text", c.x.seen(-1, 2), 2);
        CHECK.lengths("texts and a text", c.x, -1, 2, 1, HIGH);
        CHECK.numbers("neither is none", c.x, -1, 3, 0, 0);
    }

    private static void expressionThatStandsInTwoStatements() {
        CHECK.sentence("terms of promise 15",
                "The picture that FITS a set of values has the types that are in the set");
        Bench b = new Bench();
        int v = b.variable(0);
        int sum = b.add(v, v);
        b.x.assign(0, b.text(2));
        b.x.assign(1, sum);
        b.x.assign(0, b.number(9));
        b.x.assign(2, sum);
        b.x.assign(0, b.text(1));
        b.x.assign(3, sum);
        CHECK.same("look()", b.x.look(), 0);
        CHECK.same("of a text", b.x.seen(-1, 1), 2);
        CHECK.same("of a number, later", b.x.seen(-1, 2), 1);
        CHECK.numbers("of a number, later", b.x, -1, 2, 16, HIGH);
        CHECK.same("of a text again", b.x.seen(-1, 3), 2);
        CHECK.lengths("of a text again", b.x, -1, 3, 2, 2);
    }

    private static void picturesOfSeveralTypes() {
        CHECK.sentence("terms of promises 13 to 16",
                "those that the operation raises for at least one pair of values, one"
                        + " of each part's picture");
        Bench b = new Bench();
        b.oneOf(0, b.number(3), b.text(5), b.none());
        int v = b.variable(0);
        int two = b.number(2);
        int sum = b.x.assign(1, b.add(v, two));
        int less = b.x.assign(2, b.less(v, b.text(9)));
        int size = b.x.assign(3, b.length(v));
        int same = b.x.assign(4, b.equal(v, v));
        CHECK.same("look()", b.x.look(), 3);
        CHECK.yes("text or none plus 2", b.x.alarm(1, sum));
        CHECK.yes("number or none less than a text", b.x.alarm(1, less));
        CHECK.yes("length of a number or none", b.x.alarm(1, size));
        CHECK.no("EQUAL raises nothing", b.x.alarm(1, same));
        CHECK.numbers("only numbers are added", b.x, -1, 1, 5, 5);
        CHECK.same("only numbers are added", b.x.seen(-1, 1), 1);
        CHECK.numbers("only texts are compared", b.x, -1, 2, 1, 1);
        CHECK.numbers("only texts have a length", b.x, -1, 3, 5, 5);
        CHECK.numbers("all pairs may be equal or not", b.x, -1, 4, 0, 1);
    }

    private static void joinedTypes() {
        CHECK.sentence("terms of promise 15",
                "a type or being unbound may be if it may be in one of them");
        for (int types = 1; types < 16; types++) {
            Bench b = new Bench();
            int[] leaves = {b.number(1), b.text(2), b.none()};
            boolean unbound = (types & 8) != 0;
            for (int i = 0; i < 3; i++) {
                if ((types >> i & 1) != 0) {
                    if (unbound || b.x.seen(0, 0) != -1) {
                        b.perhaps(0, leaves[i]);
                    } else {
                        b.x.assign(0, leaves[i]);
                    }
                }
            }
            b.x.look();
            CHECK.same("types " + types, b.x.seen(-1, 0), types);
        }
    }

    private static void joinedBounds() {
        CHECK.sentence("terms of promise 16",
                "the bounds are the least low bound and the greatest high bound of"
                        + " those that have the type");
        int[][] due = {{3, 3, 3, 3}, {3, 5, 3, 5}, {5, 3, 3, 5}, {-16, 16, -16, 16},
            {-17, 0, LOW, 0}, {0, 17, 0, HIGH}, {16, 17, 16, HIGH}, {-16, -17, LOW, -16},
            {-17, 17, LOW, HIGH}, {-1, 1, -1, 1}};
        for (int[] d : due) {
            Bench b = new Bench();
            b.oneOf(0, b.number(d[0]), b.number(d[1]), b.none(), b.text(2), b.text(9));
            b.x.look();
            CHECK.same(d[0] + " or " + d[1], b.x.seen(-1, 0), 7);
            CHECK.numbers(d[0] + " or " + d[1], b.x, -1, 0, d[2], d[3]);
            CHECK.lengths("texts beside them", b.x, -1, 0, 2, 9);
        }
        Bench c = new Bench();
        c.perhaps(0, c.number(7));
        c.x.look();
        CHECK.numbers("7 or unbound", c.x, -1, 0, 7, 7);
    }
}
