/**
 * The ways of states through a program, which promises 13 to 16 lean on: each sentence of the
 * terms that names a boundary case.
 */
public final class WayBoundaryTest {
    private static final Check CHECK = new Check();
    /** The bounds that say that there is none. */
    private static final int LOW = -17;
    private static final int HIGH = 17;

    public static void main(String[] args) {
        allUnboundBefore();
        onlyWhatIsReached();
        assignOfAValue();
        assignOfNoValue();
        behindRaiseBreakContinue();
        firstBlockOfATry();
        branchThatIsAlwaysTrue();
        branchThatIsNeverTrue();
        branchThatMayBeBoth();
        branchWithoutValue();
        loopReachedOrNot();
        beforeALoop();
        behindALoop();
        behindBranchAndTry();
        errorsWithTheStateBefore();
        errorsOfALoopsCondition();
        errorsThatAreAlarms();
        statesThatComeTogether();
        leastStates();
        CHECK.finish();
    }

    private static void allUnboundBefore() {
        CHECK.sentence("terms of promise 15",
                "Before the program all variables are unbound, and may be nothing else.");
        Bench b = new Bench();
        b.x.assign(0, b.number(1));
        b.x.run(1);
        b.x.look();
        for (int v = 0; v < 5; v++) {
            CHECK.same("seen(0, " + v + ")", b.x.seen(0, v), 8);
            CHECK.same("seen(-1, " + v + ")", b.x.seen(-1, v), v == 0 ? 1 : 8);
        }
    }

    private static void onlyWhatIsReached() {
        CHECK.sentence("terms of promises 13 to 15",
                "What follows goes only through statements that are reached.");
        Bench b = new Bench();
        int one = b.number(1);
        int wrong = b.divide(one, b.number(0));
        b.x.branch(b.none());
        int[] unreached = {b.x.assign(0, wrong), b.x.raise(4), b.x.branch(b.variable(2)),
            b.x.assign(0, one)};
        b.x.end();
        int loop = b.x.loop(b.variable(3));
        b.x.leave(false);
        b.x.end();
        int attempt = b.x.attempt(0);
        b.x.raise(1);
        b.x.otherwise();
        int second = b.x.assign(0, wrong);
        b.x.end();
        b.x.end();
        CHECK.same("look()", b.x.look(), 0);
        for (int s : unreached) {
            CHECK.same("statement " + s, b.x.seen(s, 0), 0);
        }
        CHECK.same("a loop that is not reached", b.x.seen(loop, 0), 0);
        CHECK.same("its block", b.x.seen(loop + 1, 0), 0);
        CHECK.same("a TRY that is not reached", b.x.seen(attempt, 0), 0);
        CHECK.same("its second block", b.x.seen(second, 0), 0);
        CHECK.same("behind all", b.x.seen(-1, 0), 8);
    }

    private static void assignOfAValue() {
        CHECK.sentence("terms of promises 15 and 16",
                "what is behind has this picture for the variable, which can't be unbound then");
        Bench b = new Bench();
        b.oneOf(0, b.number(-3), b.text(3));
        b.perhaps(1, b.number(5));
        b.x.assign(0, b.none());
        b.x.assign(1, b.variable(1));
        b.x.look();
        CHECK.same("nothing of what it was is left", b.x.seen(-1, 0), 4);
        CHECK.same("assigned to itself, it can't be unbound", b.x.seen(-1, 1), 1);
        CHECK.same("the others are as before", b.x.seen(-1, 2), 8);
    }

    private static void assignOfNoValue() {
        CHECK.sentence("terms of promises 13 and 15",
                "when it has none, nothing is reached behind it");
        for (int which = 0; which < 4; which++) {
            Bench b = new Bench();
            int zero = b.number(0);
            int[] without = {b.divide(zero, zero), b.variable(1), b.length(zero),
                b.not(b.variable(1))};
            int[] errors = {3, 2, 1, 2};
            int s = b.x.assign(0, without[which]);
            int behind = b.x.raise(4);
            CHECK.same("look()", b.x.look(), 1);
            CHECK.yes("its error", b.x.alarm(errors[which], s));
            CHECK.same("it is reached", b.x.seen(s, 0), 8);
            CHECK.same("what is behind isn't", b.x.seen(behind, 0), 0);
            CHECK.same("nor the end", b.x.seen(-1, 0), 0);
        }
    }

    private static void behindRaiseBreakContinue() {
        CHECK.sentence("terms of promises 13 and 15",
                "RAISE: its error may be raised, and nothing is reached behind it; nor"
                        + " is behind BREAK and CONTINUE.");
        for (int which = 0; which < 3; which++) {
            Bench b = new Bench();
            b.x.loop(b.input());
            int s = which == 0 ? b.x.raise(4) : b.x.leave(which == 1);
            int behind = b.x.assign(0, b.number(1));
            b.x.end();
            CHECK.same("look()", b.x.look(), which == 0 ? 1 : 0);
            CHECK.same("it is reached", b.x.seen(s, 0), 8);
            CHECK.same("what is behind isn't", b.x.seen(behind, 0), 0);
            CHECK.same("what it would do is not seen", b.x.seen(-1, 0), 8);
        }
    }

    private static void firstBlockOfATry() {
        CHECK.sentence("terms of promise 15",
                "The first block of a TRY is reached with the state before the TRY.");
        Bench b = new Bench();
        b.perhaps(0, b.number(-17));
        int s = b.x.attempt(1);
        int inside = b.x.assign(1, b.none());
        b.x.end();
        b.x.look();
        CHECK.same("before the TRY", b.x.seen(s, 0), 9);
        CHECK.same("in it", b.x.seen(inside, 0), 9);
        CHECK.numbers("in it", b.x, inside, 0, LOW, -16);
        CHECK.same("in it", b.x.seen(inside, 1), 8);
    }

    private static void branchThatIsAlwaysTrue() {
        CHECK.sentence("terms of promise 15", "when the condition's picture has a true value");
        int[][] always = {{0, 1}, {0, -1}, {0, 17}, {0, -17}, {1, 1}, {1, 17}};
        for (int[] leaf : always) {
            Bench b = new Bench();
            int[] at = b.fork(b.x.leaf(leaf[0], leaf[1]));
            b.x.look();
            CHECK.same("first block on " + leaf[0] + " " + leaf[1], b.x.seen(at[0], 0), 8);
            CHECK.same("second block on " + leaf[0] + " " + leaf[1], b.x.seen(at[1], 0), 0);
        }
    }

    private static void branchThatIsNeverTrue() {
        CHECK.sentence("terms of promise 15",
                "the second one, narrowed to false, when it has a value that isn't true");
        int[][] never = {{0, 0}, {1, 0}, {2, 0}};
        for (int[] leaf : never) {
            Bench b = new Bench();
            int[] at = b.fork(b.x.leaf(leaf[0], leaf[1]));
            b.x.look();
            CHECK.same("first block on " + leaf[0] + " " + leaf[1], b.x.seen(at[0], 0), 0);
            CHECK.same("second block on " + leaf[0] + " " + leaf[1], b.x.seen(at[1], 0), 8);
        }
    }

    private static void branchThatMayBeBoth() {
        CHECK.sentence("terms of promise 15",
                "A branch's first block is reached, with the state before the branch"
                        + " NARROWED to true");
        int[][] both = {{0, 0, 0, 1}, {0, -1, 0, 0}, {0, -1, 0, 1}, {1, 0, 1, 1}, {2, 0, 0, 1},
            {2, 0, 1, 1}, {0, 0, 1, 1}, {1, 0, 0, 1}};
        for (int[] c : both) {
            Bench b = new Bench();
            b.oneOf(0, b.x.leaf(c[0], c[1]), b.x.leaf(c[2], c[3]));
            int[] at = b.fork(b.variable(0));
            b.x.look();
            CHECK.yes("first block", b.x.seen(at[0], 0) > 0);
            CHECK.yes("second block", b.x.seen(at[1], 0) > 0);
        }
    }

    private static void branchWithoutValue() {
        CHECK.sentence("terms of promises 13 and 15",
                "a picture of the values that it may hold (maybe of none)");
        for (int which = 0; which < 2; which++) {
            Bench b = new Bench();
            int unbound = b.variable(0);
            int s = which == 0 ? b.x.branch(unbound) : b.x.loop(unbound);
            int inside = b.x.assign(1, b.none());
            b.x.end();
            int behind = b.x.assign(1, b.none());
            CHECK.same("look()", b.x.look(), 1);
            CHECK.yes("alarm", b.x.alarm(2, s));
            CHECK.same("its block", b.x.seen(inside, 0), 0);
            CHECK.same("behind it", b.x.seen(behind, 0), 0);
            CHECK.same("behind all", b.x.seen(-1, 0), 0);
        }
    }

    private static void loopReachedOrNot() {
        CHECK.sentence("terms of promise 15",
                "So the block of a loop is reached, and what is behind the loop.");
        int[][] leaves = {{0, 0}, {0, 1}, {1, 0}, {1, 1}, {2, 0}, {4, 0}};
        int[] block = {0, 8, 0, 8, 0, 8};
        int[] behind = {8, 0, 8, 0, 8, 8};
        for (int i = 0; i < leaves.length; i++) {
            Bench b = new Bench();
            b.x.loop(b.x.leaf(leaves[i][0], leaves[i][1]));
            int inside = b.x.assign(1, b.none());
            b.x.end();
            b.x.look();
            CHECK.same("the block, leaf " + i, b.x.seen(inside, 0), block[i]);
            CHECK.same("behind it, leaf " + i, b.x.seen(-1, 0), behind[i]);
        }
    }

    private static void beforeALoop() {
        CHECK.sentence("terms of promises 15 and 16",
                "The state before a loop is the join of all states in which its"
                        + " condition is worked out: from before it, from the end of its block,"
                        + " from each CONTINUE.");
        Bench b = new Bench();
        int input = b.input();
        b.x.assign(0, b.number(1));
        int loop = b.x.loop(input);
        b.x.branch(input);
        b.x.assign(0, b.number(-5));
        b.x.leave(true);
        b.x.end();
        b.x.branch(input);
        b.x.assign(0, b.text(3));
        b.x.leave(true);
        b.x.end();
        b.x.branch(input);
        b.x.assign(0, b.text(16));
        b.x.leave(false);
        b.x.end();
        b.x.assign(0, b.number(9));
        b.x.end();
        CHECK.same("look()", b.x.look(), 0);
        CHECK.same("before the loop", b.x.seen(loop, 0), 3);
        CHECK.numbers("1 before it, -5 by CONTINUE, 9 at the end", b.x, loop, 0, -5, 9);
        CHECK.lengths("3 by CONTINUE, but not 16 by BREAK", b.x, loop, 0, 3, 3);
    }

    private static void behindALoop() {
        CHECK.sentence("terms of promises 15 and 16",
                "Behind a loop: also the states at each BREAK.");
        Bench b = new Bench();
        int input = b.input();
        b.x.assign(0, b.number(1));
        b.x.loop(b.number(1));
        b.x.branch(input);
        b.x.assign(0, b.text(2));
        b.x.leave(false);
        b.x.end();
        b.x.branch(input);
        b.x.assign(0, b.none());
        b.x.leave(false);
        b.x.end();
        b.x.end();
        CHECK.same("look()", b.x.look(), 0);
        CHECK.same("only the BREAKs lead out", b.x.seen(-1, 0), 6);
        CHECK.lengths("the one BREAK", b.x, -1, 0, 2, 2);

        Bench c = new Bench();
        c.x.assign(0, c.number(3));
        c.x.loop(c.variable(0));
        c.x.leave(false);
        c.x.end();
        c.x.look();
        CHECK.numbers("a loop that is only left by BREAK", c.x, -1, 0, 3, 3);
    }

    private static void behindBranchAndTry() {
        CHECK.sentence("terms of promises 15 and 16",
                "Behind a branch or TRY: the join of the states at the ends of its two blocks.");
        Bench b = new Bench();
        b.x.branch(b.input());
        b.x.assign(0, b.number(2));
        b.x.otherwise();
        b.x.assign(1, b.text(2));
        b.x.end();
        b.x.look();
        CHECK.same("from the first block", b.x.seen(-1, 0), 9);
        CHECK.same("from the second block", b.x.seen(-1, 1), 10);

        Bench c = new Bench();
        c.x.branch(c.input());
        c.x.assign(0, c.number(2));
        c.x.raise(4);
        c.x.otherwise();
        c.x.assign(1, c.text(2));
        c.x.end();
        c.x.look();
        CHECK.same("an end that is not reached", c.x.seen(-1, 0), 8);
        CHECK.same("the other end", c.x.seen(-1, 1), 2);

        Bench d = new Bench();
        d.x.attempt(3);
        d.x.assign(0, d.divide(d.number(8), d.input()));
        d.x.otherwise();
        d.x.assign(1, d.none());
        d.x.end();
        d.x.look();
        CHECK.same("with and without an error", d.x.seen(-1, 0), 9);
        CHECK.same("with and without an error", d.x.seen(-1, 1), 12);
    }

    private static void errorsWithTheStateBefore() {
        CHECK.sentence("terms of promises 15 and 16",
                "Each error that may be raised in a statement goes, with the state"
                        + " before that statement");
        Bench b = new Bench();
        b.x.assign(0, b.number(7));
        b.x.attempt(3);
        b.x.assign(0, b.divide(b.number(1), b.input()));
        b.x.otherwise();
        int caught = b.x.assign(1, b.none());
        b.x.end();
        CHECK.same("look()", b.x.look(), 0);
        CHECK.numbers("what it was before", b.x, caught, 0, 7, 7);
        CHECK.numbers("behind: 7, or -1 .. 1", b.x, -1, 0, -1, 7);

        Bench c = new Bench();
        c.x.assign(0, c.number(7));
        c.x.attempt(3);
        c.x.branch(c.less(c.variable(0), c.divide(c.number(9), c.input())));
        c.x.end();
        c.x.raise(3);
        c.x.otherwise();
        int there = c.x.assign(1, c.none());
        c.x.end();
        CHECK.same("look()", c.x.look(), 0);
        CHECK.numbers("the state before the branch is not narrowed", c.x, there, 0, 7, 7);
    }

    private static void errorsOfALoopsCondition() {
        CHECK.sentence("terms of promises 15 and 16", "for a loop as just said");
        Bench b = new Bench();
        b.x.assign(0, b.number(3));
        b.x.attempt(3);
        b.x.loop(b.divide(b.number(9), b.variable(0)));
        b.x.assign(0, b.subtract(b.variable(0), b.number(1)));
        b.x.end();
        b.x.otherwise();
        int caught = b.x.assign(1, b.none());
        b.x.end();
        CHECK.same("look()", b.x.look(), 0);
        CHECK.numbers("the join of all that come to the condition", b.x, caught, 0, LOW, 3);
    }

    private static void errorsThatAreAlarms() {
        CHECK.sentence("terms of promises 13 to 15",
                "to the beginning of the second block of the innermost TRY that catches"
                        + " it, which is reached then; if there is none, it is an ALARM");
        Bench b = new Bench();
        b.x.attempt(1);
        b.x.attempt(3);
        int s = b.x.assign(0, b.add(b.variable(0), b.divide(b.none(), b.input())));
        b.x.otherwise();
        int inner = b.x.assign(1, b.none());
        b.x.end();
        b.x.otherwise();
        int outer = b.x.assign(2, b.none());
        b.x.end();
        CHECK.same("only error 2", b.x.look(), 1);
        CHECK.yes("no TRY catches it", b.x.alarm(2, s));
        CHECK.same("no error 3", b.x.seen(inner, 0), 0);
        CHECK.same("no error 1", b.x.seen(outer, 0), 0);

        Bench c = new Bench();
        c.x.attempt(1);
        c.x.attempt(3);
        c.oneOf(0, c.number(1), c.none());
        s = c.x.assign(1, c.divide(c.variable(0), c.input()));
        c.x.otherwise();
        inner = c.x.assign(2, c.none());
        c.x.end();
        c.x.otherwise();
        outer = c.x.assign(3, c.none());
        c.x.end();
        CHECK.same("both are caught", c.x.look(), 0);
        CHECK.same("error 3 by the inner TRY", c.x.seen(inner, 0), 5);
        CHECK.same("error 1 by the outer one", c.x.seen(outer, 0), 5);
        CHECK.same("error 1 does not pass the inner one", c.x.seen(outer, 2), 8);
    }

    private static void statesThatComeTogether() {
        CHECK.sentence("terms of promises 15 and 16", "States that come together are joined");
        Bench b = new Bench();
        int quotient = b.divide(b.number(1), b.input());
        b.x.attempt(0);
        b.x.assign(0, b.number(-17));
        b.x.assign(1, quotient);
        b.x.assign(0, b.number(4));
        b.x.branch(quotient);
        b.x.assign(0, b.text(17));
        b.x.raise(4);
        b.x.end();
        b.x.assign(0, b.none());
        b.x.otherwise();
        int caught = b.x.assign(2, b.none());
        b.x.end();
        CHECK.same("look()", b.x.look(), 0);
        CHECK.same("two quotients and RAISE", b.x.seen(caught, 0), 3);
        CHECK.numbers("before the one or the other quotient", b.x, caught, 0, LOW, 4);
        CHECK.lengths("before RAISE", b.x, caught, 0, 16, HIGH);
        CHECK.same("bound behind the first quotient", b.x.seen(caught, 1), 9);
        CHECK.same("behind the TRY", b.x.seen(-1, 0), 7);
        CHECK.same("only the second block binds it", b.x.seen(-1, 2), 12);
    }

    private static void leastStates() {
        CHECK.sentence("terms of promises 15 and 16",
                "all states are the least ones for which all this holds");
        Bench b = new Bench();
        int v = b.variable(0);
        b.x.assign(0, b.number(0));
        int loop = b.x.loop(b.less(v, b.number(16)));
        int inside = b.x.assign(0, b.add(v, b.number(2)));
        b.x.end();
        CHECK.same("look()", b.x.look(), 0);
        CHECK.numbers("it grows to 17, which shows as no bound", b.x, loop, 0, 0, HIGH);
        CHECK.numbers("in the block", b.x, inside, 0, 0, 15);
        CHECK.numbers("behind", b.x, -1, 0, 16, HIGH);

        Bench c = new Bench();
        int w = c.variable(0);
        c.x.assign(0, c.number(0));
        loop = c.x.loop(c.less(w, c.number(15)));
        c.x.assign(0, c.add(w, c.number(2)));
        c.x.end();
        c.x.look();
        CHECK.numbers("it grows to 16 and no further", c.x, loop, 0, 0, 16);
        CHECK.numbers("behind", c.x, -1, 0, 15, 16);

        Bench d = new Bench();
        d.x.assign(0, d.number(1));
        loop = d.x.loop(d.input());
        d.x.assign(0, d.multiply(d.variable(0), d.variable(0)));
        d.x.end();
        d.x.look();
        CHECK.numbers("what does not grow has the bounds that it had", d.x, loop, 0, 1, 1);
    }
}
