/** Promises 17 to 20: each sentence that names a boundary case. */
public final class RunBoundaryTest {
    private static final Check CHECK = new Check();
    private static final int BIG = Bench.BIG;
    private static final int MIN = Bench.MIN;
    private static final int MAX = Bench.MAX;

    public static void main(String[] args) {
        variablesAreUnboundAtFirst();
        limitZero();
        limitZeroOfNoStatement();
        limitOfOneStep();
        limitThousand();
        limitBeyond();
        runWhileOpen();
        inputsFromTheFirstOneOn();
        inputsInTheOrderOfWork();
        inputsThatAreUsedUp();
        eachStatementIsAStep();
        conditionAgainIsAStep();
        outBeforeThatStep();
        numbersThatAreTooLarge();
        numbersThatAreJustNotTooLarge();
        numbersThatWouldWrapAround();
        textsThatAreTooLong();
        outInAPartOfAnExpression();
        outInACondition();
        outIsNoError();
        outChangesNothing();
        answerOfTheEnd();
        answerOfAnError();
        answerWhenOut();
        placeOfAnError();
        placeOfAStepNotMade();
        placeOfAnOperation();
        placeAtTheEnd();
        placeWithoutRun();
        placeOfTheLatestRun();
        typeOfEach();
        typeWhenOut();
        typeWithoutRun();
        typeOfNoVariable();
        numberOfEach();
        numberInAllOtherCases();
        CHECK.finish();
    }

    private static void variablesAreUnboundAtFirst() {
        CHECK.sentence("promise 17", "all variables unbound at first");
        Bench b = new Bench();
        for (int v = 0; v < 5; v++) {
            b.x.attempt(2);
            b.x.assign(v, b.variable(v));
            b.x.otherwise();
            b.x.assign(v, b.number(7));
            b.x.end();
        }
        b.x.assign(0, b.number(8));
        for (int round = 0; round < 3; round++) {
            CHECK.same("sixteen steps", b.x.run(16), 0);
            CHECK.same("none is left out", b.x.run(15), -2);
            CHECK.same("what the run before left is gone", b.x.number(0), 7);
            b.x.run(1);
            CHECK.same("type(4)", b.x.type(4), 8);
        }
    }

    private static void limitZero() {
        CHECK.sentence("promise 17", "with 0 it is OUT before the first one");
        for (int which = 0; which < 5; which++) {
            Bench b = new Bench();
            int one = b.number(1);
            if (which == 0) {
                b.x.assign(0, one);
            } else if (which == 1) {
                b.x.raise(1);
            } else if (which == 2) {
                b.x.branch(one);
            } else if (which == 3) {
                b.x.loop(one);
            } else {
                b.x.attempt(0);
            }
            b.x.end();
            CHECK.same("run(0)", b.x.run(0), -2);
            CHECK.same("place()", b.x.place(), 0);
            CHECK.same("type(0)", b.x.type(0), 8);
        }
    }

    private static void limitZeroOfNoStatement() {
        CHECK.sentence("promise 17", "Answers 0 when the program came to its end");
        TypeForecast x = new TypeForecast();
        CHECK.same("a program with no statement makes no step", x.run(0), 0);
        CHECK.same("place()", x.place(), -1);
        CHECK.same("run(1)", x.run(1), 0);
        CHECK.same("run(1000)", x.run(1000), 0);
        CHECK.same("type(0)", x.type(0), 8);
    }

    private static void limitOfOneStep() {
        CHECK.sentence("promise 17",
                "When more steps would be made than limit, the run is OUT before that step");
        Bench b = new Bench();
        b.x.assign(0, b.number(4));
        CHECK.same("one step in one", b.x.run(1), 0);
        CHECK.same("number(0)", b.x.number(0), 4);
        CHECK.same("one step in none", b.x.run(0), -2);
        b.x.assign(1, b.number(5));
        CHECK.same("two steps in one", b.x.run(1), -2);
        CHECK.same("the first one was made", b.x.number(0), 4);
        CHECK.same("the second one was not", b.x.type(1), 8);
        CHECK.same("two steps in two", b.x.run(2), 0);
    }

    /** Takes 2 * times + 2 steps. */
    private static Bench counting(int times) {
        Bench b = new Bench();
        b.x.assign(0, b.number(0));
        b.x.loop(b.less(b.variable(0), b.number(times)));
        b.x.assign(0, b.add(b.variable(0), b.number(1)));
        b.x.end();
        return b;
    }

    private static void limitThousand() {
        CHECK.sentence("promise 17",
                "refused with -1 when a statement is open or limit is not 0 .. 1000");
        Bench b = counting(499);
        CHECK.same("thousand steps in 1000", b.x.run(1000), 0);
        CHECK.same("number(0)", b.x.number(0), 499);
        CHECK.same("thousand steps in 999", b.x.run(999), -2);
        CHECK.same("the loop's condition was the last one", b.x.place(), 1);
        CHECK.same("number(0)", b.x.number(0), 499);
        b.x.assign(1, b.number(1));
        CHECK.same("1001 steps in 1000", b.x.run(1000), -2);
        CHECK.same("place()", b.x.place(), 3);
        CHECK.same("type(1)", b.x.type(1), 8);
        CHECK.same("1001 steps in 1001", b.x.run(1001), -1);
    }

    private static void limitBeyond() {
        CHECK.sentence("promise 17", "limit is not 0 .. 1000");
        Bench b = new Bench();
        for (int limit : new int[] {-1, 1001, -2, 1002, MIN, MAX}) {
            CHECK.same("no statement, run(" + limit + ")", b.x.run(limit), -1);
        }
        b.x.assign(0, b.number(1));
        for (int limit : new int[] {-1, 1001, -2, 1002, MIN, MAX}) {
            CHECK.same("run(" + limit + ")", b.x.run(limit), -1);
            CHECK.same("there was no run", b.x.type(0), 8);
        }
        CHECK.same("run(1000)", b.x.run(1000), 0);
        CHECK.same("run(0)", b.x.run(0), -2);
    }

    private static void runWhileOpen() {
        CHECK.sentence("promise 17", "refused with -1 when a statement is open");
        for (int which = 0; which < 3; which++) {
            Bench b = new Bench();
            int zero = b.number(0);
            b.x.assign(0, zero);
            if (which == 0) {
                b.x.branch(zero);
            } else if (which == 1) {
                b.x.loop(zero);
            } else {
                b.x.attempt(0);
            }
            CHECK.same("opener " + which + " is open", b.x.run(9), -1);
            CHECK.same("run(0)", b.x.run(0), -1);
            b.x.otherwise();
            CHECK.same("its second block is open", b.x.run(9), -1);
            CHECK.same("there was no run", b.x.type(0), 8);
            b.x.end();
            CHECK.same("it is closed", b.x.run(9), 0);
        }
    }

    private static void inputsFromTheFirstOneOn() {
        CHECK.sentence("promise 17", "The inputs, from the first one on in each run");
        Bench b = new Bench();
        int input = b.input();
        b.x.assign(0, input);
        b.x.assign(1, input);
        b.x.feed(11);
        b.x.feed(12);
        for (int round = 0; round < 3; round++) {
            CHECK.same("run", b.x.run(2), 0);
            CHECK.same("the first input", b.x.number(0), 11);
            CHECK.same("the second input", b.x.number(1), 12);
            CHECK.same("a run that is out behind the first input", b.x.run(1), -2);
        }
        CHECK.same("the first input again", b.x.number(0), 11);
    }

    private static void inputsInTheOrderOfWork() {
        CHECK.sentence("promise 17", "in the order in which these are worked out");
        Bench b = new Bench();
        int one = b.input();
        int other = b.input();
        for (int n = 1; n <= 8; n++) {
            b.x.feed(n);
        }
        b.x.assign(0, b.subtract(b.multiply(other, one), one));
        b.x.loop(b.less(other, b.number(6)));
        b.x.assign(1, one);
        b.x.end();
        b.x.assign(2, one);
        CHECK.same("run", b.x.run(9), 0);
        CHECK.same("1 * 2 - 3", b.x.number(0), -1);
        CHECK.same("4 was the condition, 5 the value, 6 the condition again", b.x.number(1), 5);
        CHECK.same("7 comes behind", b.x.number(2), 7);
    }

    private static void inputsThatAreUsedUp() {
        CHECK.sentence("promise 17", "when they are used up, 0");
        for (int fed : new int[] {0, 1, 7, 8}) {
            Bench b = new Bench();
            for (int n = 0; n < fed; n++) {
                b.x.feed(100 + n);
            }
            int input = b.input();
            for (int s = 0; s < 11; s++) {
                b.x.assign(s % 5, input);
            }
            for (int limit = 1; limit <= 11; limit++) {
                b.x.run(limit);
                int s = limit - 1;
                CHECK.same(fed + " fed, input " + s, b.x.number(s % 5), s < fed ? 100 + s : 0);
                CHECK.same("it is a number", b.x.type(s % 5), 1);
            }
        }
        Bench c = new Bench();
        c.x.assign(0, c.divide(c.number(1), c.input()));
        CHECK.same("0 like any other", c.x.run(1), 300);
    }

    private static void steps(String what, TypeForecast x, int due) {
        CHECK.same(what + ": enough steps", x.run(due), 0);
        CHECK.same(what + ": one too few", x.run(due - 1), -2);
    }

    private static void eachStatementIsAStep() {
        CHECK.sentence("promise 17", "To begin a statement is a step");
        Bench b = new Bench();
        int zero = b.number(0);
        int one = b.number(1);
        b.x.assign(0, one);
        steps("ASSIGN", b.x, 1);
        b.x.branch(one);
        b.x.assign(0, one);
        b.x.end();
        steps("BRANCH and its first block", b.x, 3);
        b.x.branch(zero);
        b.x.assign(0, one);
        b.x.otherwise();
        b.x.end();
        steps("BRANCH and an empty second block", b.x, 4);
        b.x.attempt(0);
        b.x.raise(1);
        b.x.otherwise();
        b.x.assign(0, one);
        b.x.end();
        steps("TRY, RAISE and ASSIGN", b.x, 7);
        b.x.attempt(0);
        b.x.end();
        steps("an empty TRY", b.x, 8);
        b.x.loop(zero);
        b.x.end();
        steps("LOOP that is not done", b.x, 9);
        b.x.loop(one);
        b.x.leave(false);
        b.x.end();
        steps("LOOP and BREAK", b.x, 11);
        b.x.attempt(0);
        b.x.assign(0, b.variable(4));
        b.x.end();
        steps("TRY, and ASSIGN that raises an error", b.x, 13);
    }

    private static void conditionAgainIsAStep() {
        CHECK.sentence("promise 17", "to work out the condition of a loop again is one too");
        for (int times = 0; times < 4; times++) {
            steps("done " + times + " times", counting(times).x, 2 * times + 2);
        }
        Bench b = new Bench();
        b.x.feed(1);
        b.x.feed(1);
        b.x.loop(b.input());
        b.x.end();
        steps("an empty block, done twice", b.x, 3);
        Bench c = new Bench();
        c.x.feed(1);
        c.x.loop(c.input());
        c.x.leave(true);
        c.x.end();
        steps("LOOP, CONTINUE, and the condition again", c.x, 3);
    }

    private static void outBeforeThatStep() {
        CHECK.sentence("promise 17",
                "When more steps would be made than limit, the run is OUT before that step");
        Bench b = counting(3);
        int[] numbers = {0, 0, 0, 1, 1, 2, 2, 3};
        int[] places = {0, 1, 2, 1, 2, 1, 2, 1};
        for (int limit = 0; limit < 8; limit++) {
            CHECK.same("run(" + limit + ")", b.x.run(limit), -2);
            CHECK.same("place() after " + limit, b.x.place(), places[limit]);
            CHECK.same("number(0) after " + limit, b.x.number(0), numbers[limit]);
            CHECK.same("type(0) after " + limit, b.x.type(0), limit == 0 ? 8 : 1);
        }
        CHECK.same("run(8)", b.x.run(8), 0);

        Bench c = new Bench();
        c.x.assign(0, c.number(1));
        int raise = c.x.raise(3);
        CHECK.same("out before an error", c.x.run(1), -2);
        CHECK.same("place()", c.x.place(), raise);
        CHECK.same("the error", c.x.run(2), 300 + raise);
    }

    /** The run of an operation must be out, and leave the variable as it was. */
    private static void isOut(int operation, int kind, int left, int right) {
        Bench b = new Bench();
        b.x.assign(0, b.number(5));
        b.x.assign(0, b.x.apply(operation, b.x.leaf(kind, left), b.x.leaf(kind, right)));
        b.x.assign(1, b.number(5));
        String what = "operation " + operation + " of " + left + " and " + right;
        CHECK.same(what, b.x.run(9), -2);
        CHECK.same(what + ", place()", b.x.place(), 1);
        CHECK.same(what + ", type(0)", b.x.type(0), 1);
        CHECK.same(what + ", number(0)", b.x.number(0), 5);
        CHECK.same(what + ", type(1)", b.x.type(1), 8);
    }

    /** The run of an operation must come to its end with this value. */
    private static void isNotOut(int operation, int kind, int left, int right, int due) {
        Bench b = new Bench();
        b.x.assign(0, b.x.apply(operation, b.x.leaf(kind, left), b.x.leaf(kind, right)));
        String what = "operation " + operation + " of " + left + " and " + right;
        CHECK.same(what, b.x.run(1), 0);
        CHECK.same(what + ", place()", b.x.place(), -1);
        CHECK.same(what + ", number(0)", b.x.number(0), due);
    }

    private static void numbersThatAreTooLarge() {
        CHECK.sentence("promise 17",
                "when an operation gives a number not from -1000000000 to 1000000000,"
                        + " or a text longer than 1000000000, the run is OUT there");
        isOut(0, 0, BIG, 1);
        isOut(0, 0, 1, BIG);
        isOut(0, 0, -BIG, -1);
        isOut(1, 0, BIG, -1);
        isOut(1, 0, -BIG, 1);
        isOut(2, 0, BIG, 2);
        isOut(2, 0, -BIG, 2);
        isOut(2, 0, 2, -BIG);
        isOut(2, 0, -2, -BIG);
        isOut(2, 0, BIG / 2 + 1, 2);
        isOut(2, 0, BIG / 2 + 1, -2);
    }

    private static void numbersThatAreJustNotTooLarge() {
        CHECK.sentence("promise 17", "a number not from -1000000000 to 1000000000");
        isNotOut(0, 0, BIG - 1, 1, BIG);
        isNotOut(0, 0, 1 - BIG, -1, -BIG);
        isNotOut(0, 0, BIG, 0, BIG);
        isNotOut(1, 0, BIG - 1, -1, BIG);
        isNotOut(1, 0, 1 - BIG, 1, -BIG);
        isNotOut(1, 0, 0, BIG, -BIG);
        isNotOut(2, 0, BIG / 2, 2, BIG);
        isNotOut(2, 0, BIG / 2, -2, -BIG);
        isNotOut(2, 0, BIG, 0, 0);
        isNotOut(3, 0, -BIG, -1, BIG);
        isNotOut(3, 0, BIG, -1, -BIG);
        isNotOut(4, 0, -BIG, BIG, 1);
        isNotOut(5, 0, -BIG, BIG, 0);
        isNotOut(7, 1, BIG, 0, BIG);
    }

    private static void numbersThatWouldWrapAround() {
        CHECK.sentence("promise 17", "a number not from -1000000000 to 1000000000");
        isOut(0, 0, BIG, BIG);
        isOut(0, 0, -BIG, -BIG);
        isOut(1, 0, BIG, -BIG);
        isOut(1, 0, -BIG, BIG);
        isOut(2, 0, 65536, 65536);
        isOut(2, 0, -65536, 65536);
        isOut(2, 0, 65536, 131072);
        isOut(2, 0, BIG, BIG);
        isOut(2, 0, -BIG, BIG);
        isOut(2, 0, -BIG, -BIG);
    }

    private static void textsThatAreTooLong() {
        CHECK.sentence("promise 17", "a text longer than 1000000000");
        isNotOut(0, 1, BIG, 0, BIG);
        isNotOut(0, 1, 0, BIG, BIG);
        isNotOut(0, 1, BIG - 1, 1, BIG);
        isNotOut(0, 1, BIG / 2, BIG / 2, BIG);
        isOut(0, 1, BIG, 1);
        isOut(0, 1, 1, BIG);
        isOut(0, 1, BIG / 2 + 1, BIG / 2);
        isOut(0, 1, BIG, BIG);
    }

    private static void outInAPartOfAnExpression() {
        CHECK.sentence("promise 17", "the run is OUT there");
        for (int which = 0; which < 10; which++) {
            Bench b = new Bench();
            int over = b.multiply(b.number(BIG), b.number(BIG));
            int none = b.none();
            int zero = b.number(0);
            int unbound = b.variable(0);
            int[] expressions = {b.subtract(over, over), b.multiply(over, zero),
                b.divide(over, zero), b.add(over, none), b.add(over, unbound), b.not(over),
                b.length(over), b.equal(none, over), b.add(unbound, over),
                b.not(b.add(b.length(none), over))};
            int[] due = {-2, -2, -2, -2, -2, -2, -2, -2, 200, 100};
            b.x.assign(1, expressions[which]);
            CHECK.same("expression " + which, b.x.run(1), due[which]);
            CHECK.same("place()", b.x.place(), 0);
        }
    }

    private static void outInACondition() {
        CHECK.sentence("promise 17", "the run is OUT there");
        for (int which = 0; which < 2; which++) {
            Bench b = new Bench();
            b.x.assign(0, b.number(1));
            int over = b.add(b.number(BIG), b.variable(0));
            int s = which == 0 ? b.x.branch(over) : b.x.loop(over);
            b.x.assign(0, b.none());
            b.x.end();
            CHECK.same("run", b.x.run(9), -2);
            CHECK.same("place()", b.x.place(), s);
            CHECK.same("its block was not done", b.x.number(0), 1);
        }
        Bench c = new Bench();
        c.x.assign(0, c.number(0));
        int loop = c.x.loop(c.add(c.number(BIG), c.variable(0)));
        c.x.assign(0, c.number(1));
        c.x.end();
        CHECK.same("when it is worked out again", c.x.run(9), -2);
        CHECK.same("place()", c.x.place(), loop);
        CHECK.same("the block was done", c.x.number(0), 1);
        CHECK.same("with as few steps it is out before it", c.x.run(3), -2);
        CHECK.same("place()", c.x.place(), loop);
    }

    private static void outIsNoError() {
        CHECK.sentence("promise 17", "the run is OUT there");
        for (int kind = 0; kind <= 4; kind++) {
            Bench b = new Bench();
            b.x.attempt(kind);
            int s = b.x.assign(0, b.add(b.text(BIG), b.text(1)));
            b.x.otherwise();
            b.x.assign(1, b.number(1));
            b.x.end();
            b.x.assign(2, b.number(1));
            CHECK.same("in a TRY of " + kind, b.x.run(9), -2);
            CHECK.same("place()", b.x.place(), s);
            CHECK.same("the second block", b.x.type(1), 8);
            CHECK.same("behind the TRY", b.x.type(2), 8);
            CHECK.same("run(1)", b.x.run(1), -2);
            CHECK.same("out before a step is not caught either", b.x.place(), s);
        }
    }

    private static void outChangesNothing() {
        CHECK.sentence("promise 17", "the statement in which it stands has changed nothing");
        int[][] before = {{0, -7, 1, -7}, {1, 7, 2, 7}, {2, 0, 4, 0}};
        for (int[] c : before) {
            Bench b = new Bench();
            b.x.assign(0, b.x.leaf(c[0], c[1]));
            b.x.assign(0, b.multiply(b.number(BIG), b.number(BIG)));
            CHECK.same("run", b.x.run(9), -2);
            CHECK.same("type(0)", b.x.type(0), c[2]);
            CHECK.same("number(0)", b.x.number(0), c[3]);
        }
        Bench d = new Bench();
        d.x.assign(0, d.multiply(d.number(BIG), d.number(BIG)));
        d.x.run(9);
        CHECK.same("unbound before, unbound behind", d.x.type(0), 8);
        CHECK.same("number(0)", d.x.number(0), 0);
    }

    private static void answerOfTheEnd() {
        CHECK.sentence("promise 17", "Answers 0 when the program came to its end");
        Bench b = new Bench();
        b.x.attempt(0);
        b.x.raise(4);
        b.x.end();
        CHECK.same("behind a caught error", b.x.run(2), 0);
        b.x.loop(b.number(1));
        b.x.leave(false);
        b.x.end();
        CHECK.same("behind a BREAK", b.x.run(4), 0);
        b.x.branch(b.number(0));
        b.x.end();
        CHECK.same("behind a branch", b.x.run(5), 0);
    }

    private static void answerOfAnError() {
        CHECK.sentence("promise 17", "100 * kind + statement for an uncaught error");
        for (int kind = 1; kind <= 4; kind++) {
            for (int at : new int[] {0, 1, 9, 10, 22, 23}) {
                TypeForecast x = new TypeForecast();
                x.leaf(0, 1);
                for (int s = 0; s < 24; s++) {
                    if (s == at) {
                        x.raise(kind);
                    } else {
                        x.assign(0, 0);
                    }
                }
                CHECK.same("error " + kind + " at " + at, x.run(24), 100 * kind + at);
            }
        }
    }

    private static void answerWhenOut() {
        CHECK.sentence("promise 17", "-2 when the run is out");
        Bench b = new Bench();
        b.x.assign(0, b.number(BIG));
        b.x.assign(0, b.add(b.variable(0), b.input()));
        b.x.raise(4);
        CHECK.same("before the first step", b.x.run(0), -2);
        CHECK.same("before the second step", b.x.run(1), -2);
        CHECK.same("before the third step", b.x.run(2), -2);
        CHECK.same("an error in the third step", b.x.run(3), 402);
        b.x.feed(1);
        CHECK.same("in an operation of the second step", b.x.run(2), -2);
        CHECK.same("and before the third one", b.x.run(3), -2);
        CHECK.same("place()", b.x.place(), 1);
    }

    private static void placeOfAnError() {
        CHECK.sentence("promise 18", "the statement that raised the uncaught error");
        for (int at : new int[] {0, 1, 23}) {
            Bench b = new Bench();
            int one = b.number(1);
            int wrong = b.length(one);
            for (int s = 0; s < 24; s++) {
                b.x.assign(0, s == at ? wrong : one);
            }
            b.x.run(24);
            CHECK.same("error at " + at, b.x.place(), at);
        }
        Bench c = new Bench();
        c.x.attempt(1);
        c.x.branch(c.number(1));
        int s = c.x.raise(2);
        c.x.end();
        c.x.end();
        c.x.run(9);
        CHECK.same("in blocks", c.x.place(), s);
    }

    private static void placeOfAStepNotMade() {
        CHECK.sentence("promise 18", "the statement whose step was not made any more");
        Bench b = new Bench();
        int one = b.number(1);
        int[] order = {b.x.attempt(0), b.x.branch(one), b.x.assign(0, one), b.x.raise(1), 0, 0, 0};
        b.x.end();
        b.x.otherwise();
        order[4] = b.x.loop(b.input());
        order[5] = b.x.assign(1, one);
        b.x.end();
        b.x.end();
        b.x.feed(1);
        order[6] = order[4];
        for (int limit = 0; limit < 7; limit++) {
            CHECK.same("run(" + limit + ")", b.x.run(limit), -2);
            CHECK.same("place() after " + limit, b.x.place(), order[limit]);
        }
        CHECK.same("run(7)", b.x.run(7), 0);
    }

    private static void placeOfAnOperation() {
        CHECK.sentence("promise 18", "or in which it stood");
        for (int at : new int[] {0, 1, 23}) {
            Bench b = new Bench();
            int one = b.number(1);
            int over = b.add(b.number(BIG), one);
            for (int s = 0; s < 24; s++) {
                b.x.assign(0, s == at ? over : one);
            }
            CHECK.same("run", b.x.run(24), -2);
            CHECK.same("out in " + at, b.x.place(), at);
        }
    }

    private static void placeAtTheEnd() {
        CHECK.sentence("promise 18", "-1 when it came to its end");
        Bench b = new Bench();
        b.x.run(0);
        CHECK.same("no statement", b.x.place(), -1);
        b.x.assign(0, b.number(1));
        b.x.run(1);
        CHECK.same("with as many steps", b.x.place(), -1);
        b.x.run(1000);
        CHECK.same("with more steps", b.x.place(), -1);
        b.x.attempt(0);
        b.x.raise(1);
        b.x.end();
        b.x.run(9);
        CHECK.same("with a caught error", b.x.place(), -1);
    }

    private static void placeWithoutRun() {
        CHECK.sentence("promise 18", "or there was no run");
        Bench b = new Bench();
        CHECK.same("a new object", b.x.place(), -1);
        b.x.raise(1);
        CHECK.same("a program", b.x.place(), -1);
        b.x.look();
        CHECK.same("a look", b.x.place(), -1);
        b.x.run(1001);
        CHECK.same("a refused run", b.x.place(), -1);
    }

    private static void placeOfTheLatestRun() {
        CHECK.sentence("promise 18", "Where the latest run ended");
        Bench b = new Bench();
        b.x.assign(0, b.number(1));
        b.x.assign(1, b.divide(b.number(1), b.input()));
        CHECK.same("an error", b.x.run(9), 301);
        CHECK.same("place()", b.x.place(), 1);
        b.x.feed(1);
        CHECK.same("the end", b.x.run(9), 0);
        CHECK.same("place()", b.x.place(), -1);
        CHECK.same("out", b.x.run(0), -2);
        CHECK.same("place()", b.x.place(), 0);
        CHECK.same("out later", b.x.run(1), -2);
        CHECK.same("place()", b.x.place(), 1);
        b.x.run(-1);
        CHECK.same("refused", b.x.place(), 1);
        b.x.run(9);
        CHECK.same("the end again", b.x.place(), -1);
    }

    private static void typeOfEach() {
        CHECK.sentence("promise 19", "1 a number, 2 a text, 4 none, 8 unbound");
        for (int v = 0; v < 5; v++) {
            Bench b = new Bench();
            b.x.assign(v, b.number(0));
            b.x.assign((v + 1) % 5, b.text(0));
            b.x.assign((v + 2) % 5, b.none());
            b.x.run(3);
            CHECK.same("a number", b.x.type(v), 1);
            CHECK.same("a text", b.x.type((v + 1) % 5), 2);
            CHECK.same("none", b.x.type((v + 2) % 5), 4);
            CHECK.same("unbound", b.x.type((v + 3) % 5), 8);
            CHECK.same("unbound", b.x.type((v + 4) % 5), 8);
        }
    }

    private static void typeWhenOut() {
        CHECK.sentence("promise 19", "at the end of the latest run (also when it was out)");
        Bench b = new Bench();
        b.x.assign(0, b.number(0));
        b.x.assign(0, b.text(0));
        b.x.assign(0, b.none());
        int[] due = {8, 1, 2, 4};
        for (int limit = 3; limit >= 0; limit--) {
            b.x.run(limit);
            CHECK.same("after " + limit + " steps", b.x.type(0), due[limit]);
        }
        b.x.run(2);
        b.x.run(1001);
        CHECK.same("a refused run is none", b.x.type(0), 2);
        b.x.raise(4);
        b.x.run(4);
        CHECK.same("at an error", b.x.type(0), 4);
    }

    private static void typeWithoutRun() {
        CHECK.sentence("promise 19", "8 also when there was no run");
        Bench b = new Bench();
        for (int v = 0; v < 5; v++) {
            CHECK.same("a new object", b.x.type(v), 8);
            b.x.assign(v, b.number(1));
            CHECK.same("a program", b.x.type(v), 8);
        }
        b.x.look();
        b.x.run(-1);
        b.x.attempt(0);
        b.x.run(9);
        for (int v = 0; v < 5; v++) {
            CHECK.same("refused runs", b.x.type(v), 8);
        }
    }

    private static void typeOfNoVariable() {
        CHECK.sentence("promise 19", "-1 when there is no such variable");
        Bench b = new Bench();
        for (int round = 0; round < 2; round++) {
            for (int v : new int[] {-1, 5, -2, 6, MIN, MAX}) {
                CHECK.same("type(" + v + ")", b.x.type(v), -1);
            }
            b.x.assign(4, b.number(1));
            b.x.run(1);
        }
        CHECK.same("type(0)", b.x.type(0), 8);
        CHECK.same("type(4)", b.x.type(4), 1);
    }

    private static void numberOfEach() {
        CHECK.sentence("promise 20",
                "The number, or the length of the text, that variable v held at the end"
                        + " of the latest run");
        int[][] leaves = {{0, BIG}, {0, -BIG}, {0, 1}, {0, -1}, {0, 0}, {1, 0}, {1, 1}, {1, BIG}};
        for (int[] leaf : leaves) {
            for (int v = 0; v < 5; v++) {
                Bench b = new Bench();
                b.x.assign(v, b.x.leaf(leaf[0], leaf[1]));
                b.x.run(1);
                CHECK.same("number(" + v + ")", b.x.number(v), leaf[1]);
                CHECK.same("another one", b.x.number((v + 1) % 5), 0);
            }
        }
    }

    private static void numberInAllOtherCases() {
        CHECK.sentence("promise 20", "0 in all other cases");
        Bench b = new Bench();
        CHECK.same("no run", b.x.number(0), 0);
        b.x.assign(0, b.number(9));
        CHECK.same("still no run", b.x.number(0), 0);
        b.x.run(0);
        CHECK.same("unbound", b.x.number(0), 0);
        b.x.run(1);
        CHECK.same("a number", b.x.number(0), 9);
        b.x.assign(0, b.x.leaf(2, 9));
        b.x.run(1);
        CHECK.same("a number when out", b.x.number(0), 9);
        b.x.run(2);
        CHECK.same("none", b.x.number(0), 0);
        b.x.run(0);
        CHECK.same("unbound again", b.x.number(0), 0);
        for (int v : new int[] {-1, 5, -2, 6, MIN, MAX}) {
            CHECK.same("no variable " + v, b.x.number(v), 0);
        }
    }
}
