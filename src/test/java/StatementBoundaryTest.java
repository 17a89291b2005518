/** Promises 4 to 12, and the limits they lean on: each sentence that names a boundary case. */
public final class StatementBoundaryTest {
    private static final Check CHECK = new Check();
    private static final int BIG = Bench.BIG;
    private static final int MIN = Bench.MIN;
    private static final int MAX = Bench.MAX;
    private static final String[] OPENERS = {
        "promise 7", "promise 8", "promise 9",
    };
    private static final String FALSE_OTHERWISE =
            "False when the innermost open block is not the first block of a branch or TRY.";

    public static void main(String[] args) {
        statementNumbers();
        assignBeyondTwentyFour();
        assignToNoVariable();
        assignOfNoExpression();
        raiseBeyondTwentyFour();
        raiseOfNoKind();
        leaveBeyondTwentyFour();
        leaveWithoutLoop();
        leaveAcrossBlocks();
        openersBeyondTwentyFour();
        openersBeyondFive();
        openStatementsInSecondBlocks();
        openersOfNoExpression();
        attemptOfNoKind();
        otherwiseOfNothing();
        otherwiseOfALoop();
        otherwiseOfASecondBlock();
        otherwiseOfAFirstBlock();
        endOfNothing();
        endOfTheInnermost();
        endWithoutOtherwise();
        feedBeyondEight();
        feedBounds();
        CHECK.finish();
    }

    /** A program of so many statements, all of them closed, and one expression. */
    private static TypeForecast longProgram(int statements) {
        TypeForecast x = new TypeForecast();
        x.leaf(0, 1);
        for (int s = 0; s < statements; s++) {
            x.assign(0, 0);
        }
        return x;
    }

    /** The same, but the first statement is a loop, and the others stand in it. */
    private static TypeForecast longLoop(int statements) {
        TypeForecast x = new TypeForecast();
        x.leaf(0, 1);
        x.loop(0);
        for (int s = 1; s < statements; s++) {
            x.assign(0, 0);
        }
        return x;
    }

    private static void statementNumbers() {
        CHECK.sentence("terms of promises 4 to 9",
                "STATEMENTS have numbers 0, 1, .. in the order in which they were"
                        + " added; there are at most 24.");
        TypeForecast x = new TypeForecast();
        x.leaf(0, 1);
        for (int s = 0; s < 24; s += 6) {
            CHECK.same("loop", x.loop(0), s);
            CHECK.same("leave", x.leave(false), s + 1);
            CHECK.same("branch", x.branch(0), s + 2);
            CHECK.same("raise", x.raise(1), s + 3);
            x.end();
            CHECK.same("attempt", x.attempt(1), s + 4);
            x.end();
            CHECK.same("assign", x.assign(0, 0), s + 5);
            x.end();
        }
        CHECK.same("seen(23, 0)", x.seen(23, 0), 0);
        CHECK.same("seen(24, 0)", x.seen(24, 0), -1);
        CHECK.same("assign", x.assign(0, 0), -1);
        CHECK.same("seen(24, 0)", x.seen(24, 0), -1);
    }

    private static void assignBeyondTwentyFour() {
        CHECK.sentence("promise 4", "refused with -1 when there are 24 statements");
        TypeForecast x = longProgram(23);
        CHECK.same("the 24th", x.assign(1, 0), 23);
        CHECK.same("the 25th", x.assign(2, 0), -1);
        TypeForecast y = longLoop(23);
        CHECK.same("the 24th in a loop", y.assign(1, 0), 23);
        CHECK.same("the 25th in a loop", y.assign(2, 0), -1);
        CHECK.yes("end()", y.end());
        CHECK.same("the 25th behind it", y.assign(2, 0), -1);
    }

    private static void assignToNoVariable() {
        CHECK.sentence("promise 4", "there is no such variable");
        TypeForecast x = new TypeForecast();
        x.leaf(0, 1);
        for (int v : new int[] {-1, 5, -2, 6, MIN, MAX}) {
            CHECK.same("variable " + v, x.assign(v, 0), -1);
        }
        for (int v = 0; v < 5; v++) {
            CHECK.same("variable " + v, x.assign(v, 0), v);
        }
    }

    private static void assignOfNoExpression() {
        CHECK.sentence("promise 4", "there is no such variable or expression");
        TypeForecast x = new TypeForecast();
        CHECK.same("expression 0 of none", x.assign(0, 0), -1);
        x.leaf(0, 1);
        x.leaf(0, 2);
        for (int e : new int[] {-1, 2, 59, 60, MIN, MAX}) {
            CHECK.same("expression " + e, x.assign(0, e), -1);
        }
        CHECK.same("expression 0", x.assign(0, 0), 0);
        CHECK.same("expression 1", x.assign(0, 1), 1);
    }

    private static void raiseBeyondTwentyFour() {
        CHECK.sentence("promise 5", "refused with -1 when there are 24 statements");
        for (int kind = 1; kind <= 4; kind++) {
            TypeForecast x = longProgram(23);
            CHECK.same("the 24th", x.raise(kind), 23);
            CHECK.same("the 25th", x.raise(kind), -1);
        }
    }

    private static void raiseOfNoKind() {
        CHECK.sentence("promise 5", "kind is not 1 .. 4");
        for (int kind : new int[] {0, 5, -1, 6, MIN, MAX}) {
            CHECK.same("kind " + kind, new TypeForecast().raise(kind), -1);
        }
        for (int kind = 1; kind <= 4; kind++) {
            TypeForecast x = new TypeForecast();
            CHECK.same("kind " + kind, x.raise(kind), 0);
            CHECK.same("run", x.run(1), 100 * kind);
        }
    }

    private static void leaveBeyondTwentyFour() {
        CHECK.sentence("promise 6", "refused with -1 when there are 24 statements");
        for (boolean again : new boolean[] {false, true}) {
            TypeForecast x = longLoop(23);
            CHECK.same("the 24th", x.leave(again), 23);
            CHECK.same("the 25th", x.leave(again), -1);
            CHECK.same("the 25th", x.leave(!again), -1);
        }
    }

    private static void leaveWithoutLoop() {
        CHECK.sentence("promise 6", "no loop is open");
        for (boolean again : new boolean[] {false, true}) {
            TypeForecast x = new TypeForecast();
            x.leaf(0, 1);
            CHECK.same("in the program", x.leave(again), -1);
            x.branch(0);
            CHECK.same("in a branch", x.leave(again), -1);
            x.otherwise();
            CHECK.same("in its second block", x.leave(again), -1);
            x.attempt(0);
            CHECK.same("in a TRY", x.leave(again), -1);
            x.otherwise();
            CHECK.same("in its second block", x.leave(again), -1);
            x.loop(0);
            CHECK.same("in a loop", x.leave(again), 3);
            x.end();
            CHECK.same("behind the loop", x.leave(again), -1);
            x.end();
            x.end();
            CHECK.same("in the program again", x.leave(again), -1);
        }
    }

    private static void leaveAcrossBlocks() {
        CHECK.sentence("promise 6", "around it, however many blocks lie between");
        for (int loopAt = 0; loopAt < 5; loopAt++) {
            TypeForecast x = new TypeForecast();
            x.leaf(0, 1);
            for (int level = 0; level < 5; level++) {
                CHECK.same("leave at level " + level, x.leave(true), level > loopAt ? 2 * level - 1
                        - loopAt : -1);
                if (level == loopAt) {
                    x.loop(0);
                } else if (level % 2 == 0) {
                    x.branch(0);
                } else {
                    x.attempt(0);
                }
            }
            int latest = x.leave(false);
            CHECK.same("leave at level 5", latest, 9 - loopAt);
            CHECK.same("in a second block", x.otherwise() ? x.leave(true) : latest + 1, latest + 1);
        }
    }

    private static int open(TypeForecast x, int which) {
        return which == 0 ? x.branch(0) : which == 1 ? x.loop(0) : x.attempt(0);
    }

    private static void openersBeyondTwentyFour() {
        for (int which = 0; which < 3; which++) {
            CHECK.sentence(OPENERS[which], "refused with -1 when there are 24 statements");
            TypeForecast x = longProgram(23);
            CHECK.same("the 24th", open(x, which), 23);
            CHECK.same("the 25th", open(x, which), -1);
            CHECK.yes("the 24th is open", x.end());
            CHECK.no("the 25th is not", x.end());
            CHECK.same("the 25th behind it", open(x, which), -1);
            CHECK.no("it is not open", x.end());
        }
    }

    private static void openersBeyondFive() {
        for (int which = 0; which < 3; which++) {
            CHECK.sentence(OPENERS[which], "five statements are open");
            for (int around = 0; around < 3; around++) {
                TypeForecast x = new TypeForecast();
                x.leaf(0, 1);
                for (int level = 0; level < 4; level++) {
                    open(x, around);
                }
                CHECK.same("the fifth", open(x, which), 4);
                CHECK.same("the sixth", open(x, which), -1);
                CHECK.same("ASSIGN in the fifth", x.assign(0, 0), 5);
                CHECK.yes("end()", x.end());
                CHECK.same("a fifth again", open(x, which), 6);
                CHECK.same("a sixth again", open(x, which), -1);
                for (int level = 0; level < 5; level++) {
                    CHECK.yes("end()", x.end());
                }
                CHECK.no("no sixth was opened", x.end());
            }
        }
    }

    private static void openStatementsInSecondBlocks() {
        CHECK.sentence("terms of promises 7 to 11",
                "At most five of these statements are open at once.");
        TypeForecast x = new TypeForecast();
        x.leaf(0, 1);
        for (int level = 0; level < 5; level++) {
            CHECK.same("level " + level, open(x, level % 2 == 0 ? 0 : 2), level);
            CHECK.yes("otherwise()", x.otherwise());
        }
        for (int which = 0; which < 3; which++) {
            CHECK.same("a sixth in a second block", open(x, which), -1);
        }
        x.end();
        CHECK.same("one was closed", x.loop(0), 5);
        x.end();
        x.end();
        x.end();
        CHECK.same("two more were closed", x.attempt(0), 6);
        CHECK.same("two more were closed", x.branch(0), 7);
        CHECK.same("and no third", x.loop(0), 8);
        CHECK.same("and no third", x.loop(0), -1);
    }

    private static void openersOfNoExpression() {
        for (int which = 0; which < 2; which++) {
            CHECK.sentence(OPENERS[which], "there is no such expression");
            TypeForecast x = new TypeForecast();
            CHECK.same("expression 0 of none", open(x, which), -1);
            x.leaf(0, 0);
            x.leaf(0, 0);
            for (int e : new int[] {-1, 2, 59, 60, MIN, MAX}) {
                CHECK.same("expression " + e, which == 0 ? x.branch(e) : x.loop(e), -1);
            }
            CHECK.no("nothing was opened", x.end());
            CHECK.same("expression 1", which == 0 ? x.branch(1) : x.loop(1), 0);
            CHECK.same("expression 0", which == 0 ? x.branch(0) : x.loop(0), 1);
            CHECK.yes("both were opened", x.end() && x.end());
        }
    }

    private static void attemptOfNoKind() {
        CHECK.sentence("promise 9", "kind is not 0 .. 4");
        TypeForecast x = new TypeForecast();
        for (int kind : new int[] {-1, 5, -2, 6, MIN, MAX}) {
            CHECK.same("kind " + kind, x.attempt(kind), -1);
        }
        CHECK.no("nothing was opened", x.end());
        for (int kind = 0; kind <= 4; kind++) {
            CHECK.same("kind " + kind, x.attempt(kind), kind);
            CHECK.yes("it was opened", x.end());
        }
    }

    private static void otherwiseOfNothing() {
        CHECK.sentence("promise 10", FALSE_OTHERWISE);
        TypeForecast x = new TypeForecast();
        x.leaf(0, 1);
        CHECK.no("in an empty program", x.otherwise());
        x.assign(0, 0);
        CHECK.no("behind a statement", x.otherwise());
        x.branch(0);
        x.end();
        CHECK.no("behind a branch", x.otherwise());
        x.attempt(0);
        x.end();
        CHECK.no("behind a TRY", x.otherwise());
    }

    private static void otherwiseOfALoop() {
        CHECK.sentence("promise 10", FALSE_OTHERWISE);
        for (int around = 0; around < 3; around += 2) {
            TypeForecast x = new TypeForecast();
            x.leaf(0, 1);
            open(x, around);
            x.loop(0);
            CHECK.no("in a loop in a first block", x.otherwise());
            CHECK.yes("only the loop is closed", x.end());
            CHECK.yes("in the first block again", x.otherwise());
            x.loop(0);
            CHECK.no("in a loop in a second block", x.otherwise());
        }
    }

    private static void otherwiseOfASecondBlock() {
        CHECK.sentence("promise 10", FALSE_OTHERWISE);
        for (int outer = 0; outer < 3; outer += 2) {
            for (int inner = 0; inner < 3; inner += 2) {
                TypeForecast x = new TypeForecast();
                x.leaf(0, 1);
                open(x, outer);
                open(x, inner);
                CHECK.yes("the inner second block", x.otherwise());
                CHECK.no("in the inner second block", x.otherwise());
                x.assign(0, 0);
                CHECK.no("behind a statement in it", x.otherwise());
                x.end();
                CHECK.yes("the outer second block", x.otherwise());
                open(x, inner);
                CHECK.yes("a first block in a second one", x.otherwise());
                x.end();
                CHECK.no("in the outer second block", x.otherwise());
            }
        }
    }

    private static void otherwiseOfAFirstBlock() {
        CHECK.sentence("promise 10",
                "Closes the first block of a branch or TRY and opens its second one.");
        for (int condition = 0; condition < 2; condition++) {
            Bench b = new Bench();
            b.x.branch(b.number(condition));
            CHECK.yes("behind an empty first block", b.x.otherwise());
            b.x.assign(0, b.number(7));
            b.x.end();
            b.x.run(2);
            CHECK.same("the second block on " + condition, b.x.type(0), condition == 0 ? 1 : 8);
        }
        for (int raised = 0; raised < 2; raised++) {
            Bench b = new Bench();
            b.x.attempt(0);
            if (raised == 1) {
                b.x.raise(1);
            }
            CHECK.yes("in a TRY", b.x.otherwise());
            b.x.assign(0, b.number(7));
            b.x.end();
            b.x.run(3);
            CHECK.same("the second block of a TRY", b.x.type(0), raised == 1 ? 1 : 8);
        }
    }

    private static void endOfNothing() {
        CHECK.sentence("promise 11", "False when no statement is open.");
        TypeForecast x = new TypeForecast();
        x.leaf(0, 1);
        CHECK.no("in an empty program", x.end());
        x.assign(0, 0);
        CHECK.no("behind a statement that opens nothing", x.end());
        for (int which = 0; which < 3; which++) {
            open(x, which);
            CHECK.yes("of one", x.end());
            CHECK.no("of none again", x.end());
        }
    }

    private static void endOfTheInnermost() {
        CHECK.sentence("promise 11", "Closes the innermost open block, and with it its statement");
        TypeForecast x = new TypeForecast();
        x.leaf(0, 0);
        x.leaf(0, 7);
        for (int level = 0; level < 5; level++) {
            x.branch(0);
            x.otherwise();
        }
        for (int level = 5; level > 0; level--) {
            CHECK.same("look() at level " + level, x.look(), -1);
            CHECK.yes("end() at level " + level, x.end());
            x.assign(level - 1, 1);
        }
        CHECK.no("end()", x.end());
        CHECK.same("look()", x.look(), 0);
        CHECK.same("run(9) lacks a step", x.run(9), -2);
        CHECK.same("run(10)", x.run(10), 0);
        for (int v = 0; v < 5; v++) {
            CHECK.same("what stands behind level " + v, x.number(v), 7);
        }
        CHECK.same("what stands behind the outermost one comes last", x.seen(9, 1), 1);
    }

    private static void endWithoutOtherwise() {
        CHECK.sentence("promise 11", "a second block that was not opened is empty");
        Bench b = new Bench();
        int seven = b.number(7);
        b.x.branch(b.none());
        b.x.assign(0, seven);
        b.x.end();
        b.x.attempt(4);
        b.x.raise(4);
        b.x.assign(1, seven);
        b.x.end();
        b.x.assign(2, seven);
        CHECK.same("run(4)", b.x.run(4), 0);
        CHECK.same("the first block was not done", b.x.type(0), 8);
        CHECK.same("the TRY was left", b.x.type(1), 8);
        CHECK.same("what stands behind was done", b.x.number(2), 7);
        CHECK.same("look()", b.x.look(), 0);
        CHECK.same("the first block is not reached", b.x.seen(-1, 0), 8);
        CHECK.same("what stands behind is", b.x.seen(-1, 2), 1);
    }

    private static void feedBeyondEight() {
        CHECK.sentence("promise 12", "False when there are eight");
        Bench b = new Bench();
        for (int i = 0; i < 7; i++) {
            CHECK.yes("feed " + i, b.x.feed(i + 1));
        }
        CHECK.no("a refused one doesn't count", b.x.feed(BIG + 1));
        CHECK.yes("the eighth", b.x.feed(8));
        CHECK.no("the ninth", b.x.feed(9));
        CHECK.no("0 as the ninth", b.x.feed(0));
        int input = b.input();
        for (int s = 0; s < 10; s++) {
            b.x.assign(s % 5, input);
        }
        b.x.run(8);
        CHECK.same("the eighth one's value", b.x.number(2), 8);
        b.x.run(10);
        CHECK.same("a run doesn't use them up", b.x.feed(9) ? 1 : 0, 0);
        CHECK.same("no ninth one", b.x.number(3), 0);
        CHECK.same("no tenth one", b.x.number(4), 0);
    }

    private static void feedBounds() {
        CHECK.sentence("promise 12", "n is not -1000000000 .. 1000000000");
        for (int n : new int[] {BIG + 1, -BIG - 1, MIN, MAX}) {
            CHECK.no("feed(" + n + ")", new TypeForecast().feed(n));
        }
        for (int n : new int[] {BIG, BIG - 1, 1, 0, -1, 1 - BIG, -BIG}) {
            Bench b = new Bench();
            CHECK.yes("feed(" + n + ")", b.x.feed(n));
            b.x.assign(0, b.input());
            b.x.run(1);
            CHECK.same("its value", b.x.number(0), n);
        }
    }
}
