/**
 * Narrowed states, which promises 15 and 16 lean on: each sentence of the terms that names a
 * boundary case.
 */
public final class NarrowBoundaryTest {
    private static final Check CHECK = new Check();
    /** The bounds that say that there is none. */
    private static final int LOW = -17;
    private static final int HIGH = 17;

    public static void main(String[] args) {
        conditionsThatNarrowNothing();
        onlyThisVariable();
        narrowedIsNotUnbound();
        narrowedByItself();
        narrowedByLess();
        narrowedByLessOfLengths();
        narrowedByEqual();
        narrowedByOneValueOfMany();
        narrowedWithoutAnError();
        narrowedToTheTypeOfTheRightPart();
        narrowedInLoops();
        CHECK.finish();
    }

    private static void conditionsThatNarrowNothing() {
        CHECK.sentence("terms of promises 15 and 16",
                "only a condition that is a variable, or LESS or EQUAL with a variable"
                        + " as left part, changes the state");
        for (int which = 0; which < 8; which++) {
            Bench b = new Bench();
            b.oneOf(0, b.number(-9), b.number(9));
            int v = b.variable(0);
            int five = b.number(5);
            int sum = b.add(v, b.number(0));
            int[] conditions = {b.less(five, v), b.equal(five, v), b.not(v), sum, b.less(sum, five),
                b.equal(sum, five), b.not(b.less(v, five)), b.subtract(v, five)};
            int[] at = b.fork(conditions[which]);
            b.x.look();
            CHECK.numbers("condition " + which + ", first block", b.x, at[0], 0, -9, 9);
            CHECK.numbers("condition " + which + ", second block", b.x, at[1], 0, -9, 9);
        }
        Bench c = new Bench();
        c.perhaps(0, c.number(1));
        int[] at = c.fork(c.not(c.variable(0)));
        c.x.look();
        CHECK.same("NOT of a variable leaves it unbound", c.x.seen(at[1], 0), 9);
    }

    private static void onlyThisVariable() {
        CHECK.sentence("terms of promises 15 and 16", "in it only this variable");
        for (int operation = 4; operation < 6; operation++) {
            Bench b = new Bench();
            b.oneOf(0, b.number(-9), b.number(9));
            b.oneOf(1, b.number(0), b.number(20));
            b.perhaps(2, b.none());
            int[] at = b.fork(b.x.apply(operation, b.variable(0), b.variable(1)));
            b.x.look();
            for (int block = 0; block < 2; block++) {
                CHECK.numbers("the right variable", b.x, at[block], 1, 0, HIGH);
                CHECK.same("another variable", b.x.seen(at[block], 2), 12);
                CHECK.same("an unbound one", b.x.seen(at[block], 3), 8);
            }
        }
    }

    private static void narrowedIsNotUnbound() {
        CHECK.sentence("terms of promise 15",
                "it can't be unbound, and its picture becomes the one that fits");
        for (int which = 0; which < 3; which++) {
            Bench b = new Bench();
            b.perhaps(0, b.number(0));
            b.perhaps(0, b.number(5));
            int v = b.variable(0);
            int three = b.number(3);
            int[] conditions = {v, b.less(v, three), b.equal(v, three)};
            int s = b.x.branch(conditions[which]);
            int first = b.x.assign(4, three);
            b.x.otherwise();
            int second = b.x.assign(4, three);
            b.x.end();
            CHECK.same("look()", b.x.look(), 1);
            CHECK.yes("alarm", b.x.alarm(2, s));
            CHECK.same("before it", b.x.seen(s, 0), 9);
            CHECK.same("first block", b.x.seen(first, 0), 1);
            CHECK.same("second block", b.x.seen(second, 0), 1);
            CHECK.same("behind", b.x.seen(-1, 0), 1);
        }
    }

    private static void narrowedByItself() {
        CHECK.sentence("terms of promises 15 and 16",
                "fits those of its values for which the condition is true (for false: not true)");
        int[][] due = {{0, 16, 1, 16}, {-16, 0, -16, -1}, {0, 17, 1, HIGH}, {-17, 0, LOW, -1},
            {-1, 1, -1, 1}, {0, 1, 1, 1}, {-1, 0, -1, -1}, {-17, 17, LOW, HIGH}};
        for (int[] d : due) {
            Bench b = new Bench();
            b.oneOf(0, b.number(d[0]), b.number(d[1]));
            int[] at = b.fork(b.variable(0));
            b.x.look();
            CHECK.numbers("true ones of " + d[0] + " .. " + d[1], b.x, at[0], 0, d[2], d[3]);
            CHECK.numbers("others of " + d[0] + " .. " + d[1], b.x, at[1], 0, 0, 0);
        }
        Bench c = new Bench();
        c.oneOf(0, c.text(0), c.text(17), c.none(), c.number(3));
        int[] at = c.fork(c.variable(0));
        c.x.look();
        CHECK.same("none is not true", c.x.seen(at[0], 0), 3);
        CHECK.lengths("true texts", c.x, at[0], 0, 1, HIGH);
        CHECK.same("3 is true", c.x.seen(at[1], 0), 6);
        CHECK.lengths("the text that is not true", c.x, at[1], 0, 0, 0);
    }

    /** A variable from low to high, against a number: both blocks; 99 where one is not reached. */
    private static void narrows(int operation, int low, int high, int right, int[] due) {
        Bench b = new Bench();
        b.oneOf(0, b.number(low), b.number(high));
        int[] at = b.fork(b.x.apply(operation, b.variable(0), b.number(right)));
        b.x.look();
        String what = "operation " + operation + " of " + low + " .. " + high + " and " + right;
        CHECK.same(what + ", true, low", b.x.bound(at[0], 0, 0), due[0]);
        CHECK.same(what + ", true, high", b.x.bound(at[0], 0, 1), due[1]);
        CHECK.same(what + ", false, low", b.x.bound(at[1], 0, 0), due[2]);
        CHECK.same(what + ", false, high", b.x.bound(at[1], 0, 1), due[3]);
        CHECK.same(what + ", true, seen", b.x.seen(at[0], 0), due[0] == 99 ? 0 : 1);
        CHECK.same(what + ", false, seen", b.x.seen(at[1], 0), due[2] == 99 ? 0 : 1);
    }

    private static void narrowedByLess() {
        CHECK.sentence("terms of promises 15 and 16",
                "its picture becomes the one that fits those of its values for which"
                        + " the condition is true (for false: not true)");
        narrows(4, -17, 17, -16, new int[] {LOW, -16, -16, HIGH});
        narrows(4, -17, 17, -15, new int[] {LOW, -16, -15, HIGH});
        narrows(4, -17, 17, 0, new int[] {LOW, -1, 0, HIGH});
        narrows(4, -17, 17, 16, new int[] {LOW, 15, 16, HIGH});
        narrows(4, -17, 17, 17, new int[] {LOW, HIGH, 16, HIGH});
        narrows(4, -17, 17, -17, new int[] {LOW, -16, LOW, HIGH});
        narrows(4, 3, 5, 4, new int[] {3, 3, 4, 5});
        narrows(4, 3, 5, 5, new int[] {3, 4, 5, 5});
        narrows(4, 3, 5, 3, new int[] {99, 99, 3, 5});
        narrows(4, 3, 5, 6, new int[] {3, 5, 99, 99});
        narrows(4, 16, 16, 17, new int[] {16, 16, 16, 16});
        narrows(4, 15, 15, 17, new int[] {15, 15, 99, 99});
        narrows(4, 16, 17, 16, new int[] {99, 99, 16, HIGH});
        narrows(4, -16, -16, -17, new int[] {99, 99, -16, -16});
        narrows(4, -17, -16, -16, new int[] {LOW, -16, -16, -16});
    }

    private static void narrowedByLessOfLengths() {
        CHECK.sentence("terms of promises 15 and 16",
                "its picture becomes the one that fits those of its values for which"
                        + " the condition is true (for false: not true)");
        int[][] due = {{0, 99, 99, 0, HIGH}, {1, 0, 0, 1, HIGH}, {16, 0, 15, 16, HIGH},
            {17, 0, HIGH, 16, HIGH}};
        for (int[] d : due) {
            Bench b = new Bench();
            b.oneOf(0, b.text(0), b.text(17));
            int[] at = b.fork(b.less(b.variable(0), b.text(d[0])));
            b.x.look();
            String what = "shorter than " + d[0];
            CHECK.same(what + ", true, low", b.x.bound(at[0], 0, 2), d[1]);
            CHECK.same(what + ", true, high", b.x.bound(at[0], 0, 3), d[2]);
            CHECK.same(what + ", false, low", b.x.bound(at[1], 0, 2), d[3]);
            CHECK.same(what + ", false, high", b.x.bound(at[1], 0, 3), d[4]);
        }
    }

    private static void narrowedByEqual() {
        CHECK.sentence("terms of promises 15 and 16",
                "its picture becomes the one that fits those of its values for which"
                        + " the condition is true (for false: not true)");
        narrows(5, 0, 16, 16, new int[] {16, 16, 0, 15});
        narrows(5, -16, 0, -16, new int[] {-16, -16, -15, 0});
        narrows(5, -16, 0, 0, new int[] {0, 0, -16, -1});
        narrows(5, 0, 9, 4, new int[] {4, 4, 0, 9});
        narrows(5, 0, 9, 10, new int[] {99, 99, 0, 9});
        narrows(5, 4, 4, 4, new int[] {4, 4, 99, 99});
        narrows(5, 16, 17, 16, new int[] {16, 16, 16, HIGH});
        narrows(5, 16, 17, 17, new int[] {16, HIGH, 16, HIGH});
        narrows(5, -17, -16, -16, new int[] {-16, -16, LOW, -16});
        narrows(5, -17, 17, 17, new int[] {16, HIGH, LOW, HIGH});
        narrows(5, -17, 17, -17, new int[] {LOW, -16, LOW, HIGH});
        narrows(5, 15, 15, 17, new int[] {99, 99, 15, 15});
        Bench b = new Bench();
        b.oneOf(0, b.number(0), b.text(0), b.text(4), b.none());
        int v = b.variable(0);
        int[] none = b.fork(b.equal(v, b.none()));
        int[] empty = b.fork(b.equal(v, b.text(0)));
        b.x.look();
        CHECK.same("none", b.x.seen(none[0], 0), 4);
        CHECK.same("not none", b.x.seen(none[1], 0), 3);
        CHECK.same("the empty text", b.x.seen(empty[0], 0), 2);
        CHECK.lengths("the empty text", b.x, empty[0], 0, 0, 0);
        CHECK.same("not the empty text", b.x.seen(empty[1], 0), 7);
        CHECK.lengths("not the empty text", b.x, empty[1], 0, 1, 4);
        CHECK.numbers("not the empty text", b.x, empty[1], 0, 0, 0);
    }

    private static void narrowedByOneValueOfMany() {
        CHECK.sentence("terms of promises 15 and 16",
                "for at least one value of the right part's picture where there is a right part");
        Bench b = new Bench();
        b.oneOf(0, b.number(0), b.number(9));
        b.oneOf(1, b.number(3), b.number(5));
        int[] less = b.fork(b.less(b.variable(0), b.variable(1)));
        int[] same = b.fork(b.equal(b.variable(0), b.variable(1)));
        b.x.look();
        CHECK.numbers("less than one of 3 .. 5", b.x, less[0], 0, 0, 4);
        CHECK.numbers("not less than one of 3 .. 5", b.x, less[1], 0, 3, 9);
        CHECK.numbers("one of 3 .. 5", b.x, same[0], 0, 3, 5);
        CHECK.numbers("each differs from one of 3 .. 5", b.x, same[1], 0, 0, 9);

        Bench t = new Bench();
        t.oneOf(0, t.text(0), t.text(9));
        t.oneOf(1, t.text(3), t.text(5));
        less = t.fork(t.less(t.variable(0), t.variable(1)));
        same = t.fork(t.equal(t.variable(0), t.variable(1)));
        t.x.look();
        CHECK.lengths("shorter than one of 3 .. 5", t.x, less[0], 0, 0, 4);
        CHECK.lengths("not shorter than one of 3 .. 5", t.x, less[1], 0, 3, 9);
        CHECK.lengths("as long as one of 3 .. 5", t.x, same[0], 0, 3, 5);
        CHECK.lengths("each differs from one of 3 .. 5", t.x, same[1], 0, 0, 9);

        Bench c = new Bench();
        c.x.assign(0, c.number(3));
        c.oneOf(1, c.number(3), c.none());
        int[] at = c.fork(c.equal(c.variable(0), c.variable(1)));
        c.x.look();
        CHECK.numbers("3 is 3", c.x, at[0], 0, 3, 3);
        CHECK.numbers("3 is not none", c.x, at[1], 0, 3, 3);

        Bench d = new Bench();
        d.oneOf(0, d.number(3), d.number(4));
        int v = d.variable(0);
        at = d.fork(d.equal(v, v));
        int[] less2 = d.fork(d.less(v, v));
        d.x.look();
        CHECK.numbers("itself, in pictures", d.x, at[0], 0, 3, 4);
        CHECK.numbers("not itself, in pictures", d.x, at[1], 0, 3, 4);
        CHECK.numbers("less than itself, in pictures", d.x, less2[0], 0, 3, 3);
        CHECK.numbers("not less than itself", d.x, less2[1], 0, 3, 4);
    }

    private static void narrowedWithoutAnError() {
        CHECK.sentence("terms of promises 15 and 16", "without an error");
        Bench b = new Bench();
        b.oneOf(0, b.number(2), b.text(4), b.none());
        int v = b.variable(0);
        int[] number = b.fork(b.less(v, b.number(3)));
        int[] text = b.fork(b.less(v, b.text(4)));
        b.x.look();
        CHECK.same("less than a number", b.x.seen(number[0], 0), 1);
        CHECK.same("no number is not less than 3", b.x.seen(number[1], 0), 0);
        CHECK.same("behind it only the number is left", b.x.seen(text[0] - 1, 0), 1);
        CHECK.same("which is no text", b.x.seen(text[1], 0), 0);

        Bench c = new Bench();
        c.oneOf(0, c.number(2), c.text(4), c.none());
        c.oneOf(1, c.number(2), c.text(4));
        int[] at = c.fork(c.less(c.variable(0), c.variable(1)));
        c.x.look();
        CHECK.same("2 is not less than 2, nor 4 than 4", c.x.seen(at[0], 0), 0);
        CHECK.same("numbers or texts, but not none", c.x.seen(at[1], 0), 3);
    }

    private static void narrowedToTheTypeOfTheRightPart() {
        CHECK.sentence("terms of promises 15 and 16", "without an error");
        for (int kind = 0; kind < 2; kind++) {
            Bench b = new Bench();
            b.oneOf(0, b.input(), b.text(0), b.text(17));
            int[] at = b.fork(b.less(b.variable(0), b.x.leaf(kind, 4)));
            b.x.look();
            for (int block = 0; block < 2; block++) {
                CHECK.same("against kind " + kind + ", block " + block, b.x.seen(at[block], 0),
                        kind == 0 ? 1 : 2);
            }
        }
        Bench c = new Bench();
        c.oneOf(0, c.number(3), c.text(5));
        c.oneOf(1, c.number(9), c.text(5));
        c.x.branch(c.equal(c.variable(0), c.variable(1)));
        int first = c.x.assign(2, c.none());
        c.x.otherwise();
        c.x.assign(0, c.number(12));
        c.x.end();
        c.x.look();
        CHECK.same("3 is not 9", c.x.seen(first, 0), 2);
        CHECK.numbers("a type that was taken away has no bounds to join", c.x, -1, 0, 12, 12);
        CHECK.lengths("the type that was left", c.x, -1, 0, 5, 5);
    }

    private static void narrowedInLoops() {
        CHECK.sentence("terms of promises 15 and 16",
                "So the block of a loop is reached, and what is behind the loop.");
        Bench b = new Bench();
        int v = b.variable(0);
        b.oneOf(0, b.number(0), b.number(12), b.none());
        int loop = b.x.loop(v);
        int inside = b.x.assign(1, v);
        b.x.end();
        b.x.look();
        CHECK.same("before it", b.x.seen(loop, 0), 5);
        CHECK.same("in it", b.x.seen(inside, 0), 1);
        CHECK.numbers("in it", b.x, inside, 0, 1, 12);
        CHECK.same("behind it", b.x.seen(-1, 0), 5);
        CHECK.numbers("behind it", b.x, -1, 0, 0, 0);
        CHECK.same("what the block assigned", b.x.seen(-1, 1), 9);
    }
}
