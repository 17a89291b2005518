/**
 * Statements and blocks, as a run (promise 17) goes through them: each sentence of the terms that
 * names a boundary case. What the looking through (promise 13) says of the same programs is asked
 * beside it where it is as plain.
 */
public final class ProgramBoundaryTest {
    private static final Check CHECK = new Check();

    public static void main(String[] args) {
        breakOfTheInnermostLoop();
        breakThroughATry();
        continueGoesToTheCondition();
        branchWithEmptyBlocks();
        loopThatIsNotDone();
        loopWithAnEmptyBlock();
        tryWithEmptyBlocks();
        tryOfEachKind();
        kindsOfErrors();
        tryThenWhatStandsBehind();
        errorsInConditions();
        errorsLeaveAllBlocks();
        errorsLeaveFiveBlocks();
        endOfFiveBlocks();
        errorsInSecondBlocks();
        errorsThatNoTryCatches();
        statementsGoToTheInnermostBlock();
        CHECK.finish();
    }

    private static void breakOfTheInnermostLoop() {
        CHECK.sentence("terms of promises 6 and 17", "BREAK leaves the innermost loop around it");
        Bench b = new Bench();
        int one = b.number(1);
        b.x.loop(one);
        b.x.loop(one);
        b.x.branch(one);
        b.x.leave(false);
        b.x.assign(0, one);
        b.x.end();
        b.x.assign(1, one);
        b.x.end();
        b.x.assign(2, one);
        b.x.leave(false);
        b.x.assign(3, one);
        b.x.end();
        b.x.assign(4, one);
        CHECK.same("run in as few steps", b.x.run(7), 0);
        CHECK.same("no step less", b.x.run(6), -2);
        b.x.run(7);
        b.x.look();
        int[] due = {8, 8, 1, 8, 1};
        for (int v = 0; v < 5; v++) {
            CHECK.same("type(" + v + ")", b.x.type(v), due[v]);
            CHECK.same("seen(-1, " + v + ")", b.x.seen(-1, v), due[v]);
        }
    }

    private static void breakThroughATry() {
        CHECK.sentence("terms of promises 6 and 17", "BREAK leaves the innermost loop around it");
        Bench b = new Bench();
        int one = b.number(1);
        b.x.loop(one);
        b.x.attempt(0);
        b.x.leave(false);
        b.x.otherwise();
        b.x.assign(0, one);
        b.x.end();
        b.x.end();
        int behind = b.x.raise(4);
        CHECK.same("the TRY that was left catches nothing", b.x.run(9), 400 + behind);
        CHECK.same("its second block was not done", b.x.type(0), 8);
        CHECK.same("look()", b.x.look(), 1);
        CHECK.yes("alarm behind the loop", b.x.alarm(4, behind));
        CHECK.same("its second block is not reached", b.x.seen(3, 0), 0);
    }

    private static void continueGoesToTheCondition() {
        CHECK.sentence("terms of promises 6 and 17",
                "CONTINUE goes on with that loop's condition.");
        Bench b = new Bench();
        int one = b.number(1);
        int v = b.variable(0);
        b.x.assign(0, one);
        int loop = b.x.loop(b.divide(one, v));
        b.x.attempt(0);
        b.x.assign(0, b.number(0));
        b.x.leave(true);
        b.x.otherwise();
        b.x.assign(1, one);
        b.x.end();
        b.x.assign(2, one);
        b.x.end();
        CHECK.same("its error is not caught by the TRY that was left", b.x.run(9), 300 + loop);
        CHECK.same("the second block was not done", b.x.type(1), 8);
        CHECK.same("nor what stands behind CONTINUE", b.x.type(2), 8);
        CHECK.same("look()", b.x.look(), 1);
        CHECK.yes("alarm", b.x.alarm(3, loop));

        Bench c = new Bench();
        int two = c.number(2);
        int w = c.variable(0);
        c.x.assign(0, c.number(0));
        c.x.loop(c.less(w, two));
        c.x.assign(0, c.add(w, c.number(1)));
        c.x.loop(c.number(1));
        c.x.branch(c.less(w, two));
        c.x.leave(false);
        c.x.end();
        c.x.assign(1, two);
        c.x.leave(false);
        c.x.end();
        c.x.leave(true);
        c.x.assign(2, two);
        c.x.end();
        CHECK.same("nested loops", c.x.run(99), 0);
        CHECK.same("the outer one was done twice", c.x.number(0), 2);
        CHECK.same("the inner one went on once", c.x.number(1), 2);
        CHECK.same("behind CONTINUE", c.x.type(2), 8);
    }

    private static void branchWithEmptyBlocks() {
        CHECK.sentence("terms of promise 17",
                "does its first block if that is true, otherwise its second one");
        for (int condition = 0; condition < 2; condition++) {
            for (int filled = 0; filled < 4; filled++) {
                Bench b = new Bench();
                int seven = b.number(7);
                b.x.branch(b.number(condition));
                if (filled % 2 == 1) {
                    b.x.assign(0, seven);
                }
                b.x.otherwise();
                if (filled / 2 == 1) {
                    b.x.assign(1, seven);
                }
                b.x.end();
                b.x.assign(2, seven);
                boolean first = condition == 1 && filled % 2 == 1;
                boolean second = condition == 0 && filled / 2 == 1;
                String what = "condition " + condition + ", blocks " + filled;
                CHECK.same(what, b.x.run(first || second ? 3 : 2), 0);
                CHECK.same(what + ", first block", b.x.type(0), first ? 1 : 8);
                CHECK.same(what + ", second block", b.x.type(1), second ? 1 : 8);
                CHECK.same(what + ", behind it", b.x.type(2), 1);
                b.x.look();
                CHECK.same(what + ", first block seen", b.x.seen(-1, 0), first ? 1 : 8);
                CHECK.same(what + ", second block seen", b.x.seen(-1, 1), second ? 1 : 8);
            }
        }
    }

    private static void loopThatIsNotDone() {
        CHECK.sentence("terms of promise 17",
                "LOOP works its condition out, and as long as that is true does its block");
        int[][] due = {{0, 0}, {1, 1}, {2, 2}, {-1, 0}};
        for (int[] d : due) {
            Bench b = new Bench();
            int zero = b.number(0);
            int v = b.variable(0);
            b.x.assign(0, zero);
            b.x.loop(b.less(v, b.number(d[0])));
            b.x.assign(0, b.add(v, b.number(1)));
            b.x.end();
            CHECK.same("until " + d[0], b.x.run(2 + 2 * d[1]), 0);
            CHECK.same("until " + d[0], b.x.number(0), d[1]);
            CHECK.same("with a step less", b.x.run(1 + 2 * d[1]), -2);
        }
    }

    private static void loopWithAnEmptyBlock() {
        CHECK.sentence("terms of promise 17", "does its block and works it out again");
        Bench b = new Bench();
        b.x.feed(1);
        b.x.feed(-1);
        b.x.feed(0);
        b.x.feed(44);
        int input = b.input();
        b.x.loop(input);
        b.x.end();
        b.x.assign(0, input);
        CHECK.same("three times the condition, and ASSIGN", b.x.run(4), 0);
        CHECK.same("the input behind the 0", b.x.number(0), 44);
        CHECK.same("out at the third time", b.x.run(2), -2);
        CHECK.same("place()", b.x.place(), 0);
        CHECK.same("out behind it", b.x.run(3), -2);
        CHECK.same("place()", b.x.place(), 1);
        CHECK.same("look()", b.x.look(), 0);
        CHECK.same("behind it", b.x.seen(1, 0), 8);

        Bench c = new Bench();
        c.x.loop(c.number(1));
        c.x.end();
        CHECK.same("one that does not end", c.x.run(1000), -2);
        CHECK.same("place()", c.x.place(), 0);
        CHECK.same("look()", c.x.look(), 0);
        CHECK.same("nothing is behind it", c.x.seen(-1, 0), 0);
    }

    private static void tryWithEmptyBlocks() {
        CHECK.sentence("terms of promises 9 and 17",
                "TRY has a caught kind (0 catches each kind) and does its first block");
        Bench b = new Bench();
        int seven = b.number(7);
        b.x.attempt(0);
        b.x.otherwise();
        b.x.assign(0, seven);
        b.x.end();
        b.x.attempt(0);
        b.x.end();
        b.x.assign(1, seven);
        CHECK.same("empty first blocks", b.x.run(3), 0);
        CHECK.same("no error, no second block", b.x.type(0), 8);
        CHECK.same("behind", b.x.type(1), 1);
        CHECK.same("look()", b.x.look(), 0);
        CHECK.same("the second block is not reached", b.x.seen(1, 0), 0);
        CHECK.same("behind", b.x.seen(3, 0), 8);
    }

    private static void tryOfEachKind() {
        CHECK.sentence("terms of promises 9 and 17", "0 catches each kind");
        for (int raised = 1; raised <= 4; raised++) {
            for (int caught = 0; caught <= 4; caught++) {
                Bench b = new Bench();
                b.x.attempt(caught);
                b.x.raise(raised);
                b.x.end();
                boolean catches = caught == 0 || caught == raised;
                String what = raised + " in a TRY of " + caught;
                CHECK.same(what, b.x.run(9), catches ? 0 : 100 * raised + 1);
                CHECK.same(what + ", look()", b.x.look(), catches ? 0 : 1);
                CHECK.same(what + ", seen behind it", b.x.seen(-1, 0), catches ? 8 : 0);
            }
        }
    }

    private static void kindsOfErrors() {
        CHECK.sentence("terms of promises 5, 9 and 17",
                "KINDS of errors: 1 TYPE, 2 UNBOUND NAME, 3 DIVISION BY ZERO, 4 OWN.");
        for (int kind = 1; kind <= 3; kind++) {
            for (int caught = 0; caught <= 4; caught++) {
                Bench b = new Bench();
                int[] wrong = {0, b.length(b.none()), b.variable(0),
                    b.divide(b.number(1), b.number(0))};
                b.x.attempt(caught);
                int s = b.x.assign(1, wrong[kind]);
                b.x.end();
                boolean catches = caught == 0 || caught == kind;
                String what = "error " + kind + " in a TRY of " + caught;
                CHECK.same(what, b.x.run(9), catches ? 0 : 100 * kind + s);
                CHECK.same(what + ", look()", b.x.look(), catches ? 0 : 1);
                CHECK.same(what + ", alarm", b.x.alarm(kind, s) ? 1 : 0, catches ? 0 : 1);
            }
        }
    }

    private static void tryThenWhatStandsBehind() {
        CHECK.sentence("terms of promises 9 and 17",
                "its second block is done, and then what stands behind the TRY");
        Bench b = new Bench();
        int one = b.number(1);
        b.x.attempt(4);
        b.x.assign(0, one);
        b.x.raise(4);
        b.x.assign(1, one);
        b.x.otherwise();
        b.x.assign(2, one);
        b.x.end();
        b.x.assign(3, one);
        CHECK.same("run(5)", b.x.run(5), 0);
        b.x.look();
        int[] due = {1, 8, 1, 1, 8};
        for (int v = 0; v < 5; v++) {
            CHECK.same("type(" + v + ")", b.x.type(v), due[v]);
            CHECK.same("seen(-1, " + v + ")", b.x.seen(-1, v), due[v]);
        }
    }

    private static void errorsInConditions() {
        CHECK.sentence("terms of promises 9 and 17", "also in the condition of a branch or loop");
        for (int which = 0; which < 2; which++) {
            for (int caught = 0; caught < 2; caught++) {
                Bench b = new Bench();
                int unbound = b.variable(0);
                int one = b.number(1);
                b.x.attempt(caught == 1 ? 2 : 3);
                int at = which == 0 ? b.x.branch(unbound) : b.x.loop(unbound);
                b.x.assign(1, one);
                b.x.end();
                b.x.assign(2, one);
                b.x.otherwise();
                b.x.assign(3, one);
                b.x.end();
                CHECK.same("run", b.x.run(3), caught == 1 ? 0 : 200 + at);
                CHECK.same("its block", b.x.type(1), 8);
                CHECK.same("behind it", b.x.type(2), 8);
                CHECK.same("the second block", b.x.type(3), caught == 1 ? 1 : 8);
                CHECK.same("look()", b.x.look(), 1 - caught);
                CHECK.same("alarm", b.x.alarm(2, at) ? 1 : 0, 1 - caught);
            }
        }
    }

    private static void errorsLeaveAllBlocks() {
        CHECK.sentence("terms of promises 9 and 17",
                "leaves all blocks around it up to the innermost first block of a TRY"
                        + " that catches its kind");
        for (int kind = 1; kind <= 4; kind++) {
            Bench b = new Bench();
            int one = b.number(1);
            b.x.attempt(0);
            b.x.attempt(kind);
            b.x.loop(one);
            b.x.attempt(kind % 4 + 1);
            b.x.branch(one);
            int raised = b.x.raise(kind);
            b.x.end();
            b.x.otherwise();
            b.x.assign(0, one);
            b.x.end();
            b.x.end();
            b.x.otherwise();
            int caught = b.x.assign(1, one);
            b.x.end();
            b.x.otherwise();
            b.x.assign(2, one);
            b.x.end();
            CHECK.same("six steps and the end", b.x.run(7), 0);
            CHECK.same("not the TRY of another kind", b.x.type(0), 8);
            CHECK.same("the innermost one of its kind", b.x.type(1), 1);
            CHECK.same("not the one around it", b.x.type(2), 8);
            CHECK.same("look()", b.x.look(), 0);
            CHECK.same("the statement", b.x.seen(raised, 0), 8);
            CHECK.same("the second block", b.x.seen(caught, 0), 8);
            CHECK.same("behind", b.x.seen(-1, 1), 1);
        }
    }

    private static void errorsLeaveFiveBlocks() {
        CHECK.sentence("terms of promises 9 and 17",
                "leaves all blocks around it up to the innermost first block of a TRY"
                        + " that catches its kind");
        for (int at = 0; at < 5; at++) {
            Bench b = new Bench();
            int one = b.number(1);
            for (int level = 0; level < 5; level++) {
                if (level == at) {
                    b.x.attempt(2);
                } else if (level % 2 == 0) {
                    b.x.branch(one);
                } else {
                    b.x.attempt(3);
                }
            }
            b.x.raise(2);
            b.endAll();
            b.x.assign(0, one);
            CHECK.same("the TRY at level " + at, b.x.run(7), 0);
            CHECK.same("behind all five", b.x.type(0), 1);
            CHECK.same("look()", b.x.look(), 0);
            CHECK.same("behind all five, seen", b.x.seen(-1, 0), 1);
        }
    }

    private static void endOfFiveBlocks() {
        CHECK.sentence("terms of promises 7 to 11",
                "At most five of these statements are open at once.");
        for (int second = 0; second < 2; second++) {
            Bench b = new Bench();
            int value = b.number(1 - second);
            for (int level = 0; level < 5; level++) {
                b.x.branch(value);
                if (second == 1) {
                    b.x.otherwise();
                }
            }
            b.x.assign(0, value);
            b.endAll();
            b.x.assign(1, value);
            CHECK.same("seven steps", b.x.run(7), 0);
            CHECK.same("in all five", b.x.type(0), 1);
            CHECK.same("behind all five", b.x.type(1), 1);
            CHECK.same("look()", b.x.look(), 0);
            CHECK.same("in all five, seen", b.x.seen(-1, 0), 1);
            CHECK.same("behind all five, seen", b.x.seen(-1, 1), 1);
        }
    }

    private static void errorsInSecondBlocks() {
        CHECK.sentence("terms of promises 9 and 17",
                "an error in a TRY's second block is not caught by that TRY");
        for (int around = 0; around < 2; around++) {
            Bench b = new Bench();
            if (around == 1) {
                b.x.attempt(4);
            }
            b.x.attempt(0);
            b.x.raise(3);
            b.x.otherwise();
            b.x.branch(b.number(1));
            int again = b.x.raise(4);
            b.x.end();
            b.x.end();
            if (around == 1) {
                b.x.otherwise();
                b.x.assign(0, b.number(1));
                b.x.end();
            }
            CHECK.same("a TRY around it: " + around, b.x.run(9), around == 1 ? 0 : 400 + again);
            CHECK.same("its second block", b.x.type(0), around == 1 ? 1 : 8);
            CHECK.same("look()", b.x.look(), 1 - around);
            CHECK.same("alarm", b.x.alarm(4, again) ? 1 : 0, 1 - around);
        }
    }

    private static void errorsThatNoTryCatches() {
        CHECK.sentence("terms of promise 17",
                "it is UNCAUGHT, with its kind and the statement in which it was raised");
        Bench b = new Bench();
        b.x.assign(0, b.number(1));
        b.x.attempt(1);
        b.x.attempt(2);
        b.x.attempt(3);
        b.x.loop(b.number(1));
        int raised = b.x.raise(4);
        b.endAll();
        b.x.assign(1, b.number(1));
        CHECK.same("run", b.x.run(99), 400 + raised);
        CHECK.same("place()", b.x.place(), raised);
        CHECK.same("before it", b.x.type(0), 1);
        CHECK.same("behind it", b.x.type(1), 8);

        TypeForecast last = new TypeForecast();
        last.leaf(0, 1);
        for (int s = 0; s < 23; s++) {
            last.assign(0, 0);
        }
        last.raise(1);
        CHECK.same("the first kind in the last statement", last.run(24), 123);
        TypeForecast first = new TypeForecast();
        first.raise(4);
        CHECK.same("the last kind in the first statement", first.run(24), 400);
    }

    private static void statementsGoToTheInnermostBlock() {
        CHECK.sentence("terms of promises 4 to 11",
                "new statements go to the end of the innermost open block (at first,"
                        + " and when no other is open, the program)");
        Bench b = new Bench();
        int one = b.number(1);
        int[] order = new int[9];
        order[0] = b.x.assign(0, one);
        order[1] = b.x.branch(one);
        order[2] = b.x.assign(0, one);
        order[3] = b.x.attempt(0);
        order[4] = b.x.assign(0, one);
        order[5] = b.x.assign(0, one);
        b.x.end();
        order[6] = b.x.assign(0, one);
        b.x.otherwise();
        b.x.assign(3, one);
        b.x.end();
        order[7] = b.x.assign(0, one);
        order[8] = b.x.assign(0, one);
        for (int limit = 0; limit < 9; limit++) {
            CHECK.same("run(" + limit + ")", b.x.run(limit), -2);
            CHECK.same("the next step", b.x.place(), order[limit]);
        }
        CHECK.same("run(9)", b.x.run(9), 0);
        CHECK.same("the second block was left out", b.x.type(3), 8);
    }
}
