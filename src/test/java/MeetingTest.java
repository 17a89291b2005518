/**
 * Where several promises meet: what is added behind a looking through or a run, looks and runs that
 * are refused behind others that were not, and several looks and runs of one object.
 */
public final class MeetingTest {
    private static final Check CHECK = new Check();

    public static void main(String[] args) {
        statementsBehindALook();
        openStatementsBehindALook();
        expressionsAndInputsBehindALook();
        runsBehindALook();
        statementsBehindARun();
        inputsBehindARun();
        expressionsBehindARun();
        looksBehindARun();
        refusedLooks();
        refusedRuns();
        growingEndOfTheProgram();
        growingEndOfALoop();
        growingEndOfATry();
        runsOneAfterTheOther();
        looksOneAfterTheOther();
        firstLookOfAnOpenProgram();
        lastCallOfAnObject();
        CHECK.finish();
    }

    /** v0 = an input; v1 = 10 / v0 where v0 < 3; an alarm of kind 3 at statement 2. */
    private static Bench divider() {
        Bench b = new Bench();
        int input = b.input();
        int v0 = b.variable(0);
        int quotient = b.divide(b.number(10), v0);
        int small = b.less(v0, b.number(3));
        b.x.assign(0, input);
        b.x.branch(small);
        b.x.assign(1, quotient);
        b.x.end();
        return b;
    }

    private static void dividerIsLooked(String when, Bench b) {
        CHECK.yes(when + ": alarm(3, 2)", b.x.alarm(3, 2));
        CHECK.no(when + ": alarm(3, 1)", b.x.alarm(3, 1));
        CHECK.same(when + ": before the program", b.x.seen(0, 0), 8);
        CHECK.numbers(when + ": before the branch", b.x, 1, 0, -17, 17);
        CHECK.numbers(when + ": in the branch", b.x, 2, 0, -17, 2);
        CHECK.same(when + ": behind the program", b.x.seen(-1, 1), 9);
        CHECK.same(when + ": unbound behind the program", b.x.seen(-1, 2), 8);
    }

    private static void dividerHasRun(String when, Bench b, int input, int quotient) {
        CHECK.same(when + ": place()", b.x.place(), -1);
        CHECK.same(when + ": type(0)", b.x.type(0), 1);
        CHECK.same(when + ": number(0)", b.x.number(0), input);
        CHECK.same(when + ": type(1)", b.x.type(1), 1);
        CHECK.same(when + ": number(1)", b.x.number(1), quotient);
        CHECK.same(when + ": type(2)", b.x.type(2), 8);
    }

    private static void statementsBehindALook() {
        CHECK.sentence("promise 15", "as the latest looking through found it");
        Bench b = divider();
        CHECK.same("look()", b.x.look(), 1);
        dividerIsLooked("at once", b);
        int text = b.text(4);
        int unknown = b.variable(2);
        int late = b.x.assign(2, text);
        int raised = b.x.raise(4);
        int never = b.x.assign(3, unknown);
        dividerIsLooked("with three more statements", b);
        for (int s = late; s <= never; s++) {
            for (int v = 0; v < 5; v++) {
                CHECK.same("added later: " + s, b.x.seen(s, v), 0);
                CHECK.same("no bound: " + s, b.x.bound(s, v, 0), 99);
            }
            CHECK.no("no alarm: " + s, b.x.alarm(4, s) || b.x.alarm(2, s));
        }
        CHECK.same("look()", b.x.look(), 2);
        CHECK.yes("the former alarm", b.x.alarm(3, 2));
        CHECK.yes("the new alarm", b.x.alarm(4, raised));
        CHECK.same("now looked through", b.x.seen(late, 2), 8);
        CHECK.lengths("now looked through", b.x, raised, 2, 4, 4);
        CHECK.same("not reached", b.x.seen(never, 2), 0);
        CHECK.same("behind the program", b.x.seen(-1, 0), 0);
    }

    private static void openStatementsBehindALook() {
        CHECK.sentence("promise 15", "or the statement was added later");
        Bench b = divider();
        int one = b.number(1);
        CHECK.same("look()", b.x.look(), 1);
        int branch = b.x.branch(one);
        int loop = b.x.loop(one);
        int attempt = b.x.attempt(0);
        int assign = b.x.assign(0, one);
        CHECK.same("look()", b.x.look(), -1);
        dividerIsLooked("with three open statements", b);
        for (int s = branch; s <= assign; s++) {
            CHECK.same("added later: " + s, b.x.seen(s, 0), 0);
        }
        CHECK.same("not added", b.x.seen(assign + 1, 0), -1);
        b.x.otherwise();
        b.x.end();
        b.x.end();
        CHECK.same("look()", b.x.look(), -1);
        dividerIsLooked("with one open statement", b);
        b.x.end();
        CHECK.same("added later: " + attempt, b.x.seen(attempt, 0), 0);
        dividerIsLooked("with none", b);
        CHECK.same("look()", b.x.look(), 1);
        CHECK.numbers("looked through", b.x, loop, 0, -17, 17);
        CHECK.same("a loop without an end", b.x.seen(-1, 0), 0);
    }

    private static void expressionsAndInputsBehindALook() {
        CHECK.sentence("promises 2, 3, 12 and 13", "the latest looking through");
        Bench b = divider();
        CHECK.same("look()", b.x.look(), 1);
        int e = b.number(1);
        for (int i = 0; i < 8; i++) {
            e = b.not(e);
            b.x.feed(5);
            dividerIsLooked("with " + (i + 1) + " more expressions and inputs", b);
        }
        CHECK.no("a ninth input", b.x.feed(5));
        CHECK.same("inputs tell a look nothing", b.x.look(), 1);
        dividerIsLooked("looked through again", b);
    }

    private static void runsBehindALook() {
        CHECK.sentence("promises 14 to 17", "the latest looking through");
        Bench b = divider();
        b.x.feed(2);
        CHECK.same("look()", b.x.look(), 1);
        CHECK.same("run(9)", b.x.run(9), 0);
        dividerIsLooked("behind a run to the end", b);
        CHECK.same("run(2)", b.x.run(2), -2);
        dividerIsLooked("behind a run that is out", b);
        Bench c = divider();
        CHECK.same("look()", c.x.look(), 1);
        CHECK.same("an input of 0", c.x.run(9), 302);
        dividerIsLooked("behind a run with an error", c);
    }

    private static void statementsBehindARun() {
        CHECK.sentence("promises 18 to 20", "Where the latest run ended");
        Bench b = divider();
        b.x.feed(2);
        CHECK.same("run(9)", b.x.run(9), 0);
        int text = b.text(4);
        b.x.assign(0, text);
        dividerHasRun("with one more statement", b, 2, 5);
        b.x.loop(text);
        b.x.raise(2);
        dividerHasRun("with an open loop", b, 2, 5);
        b.x.end();
        dividerHasRun("with a closed loop", b, 2, 5);
        CHECK.same("run(9)", b.x.run(9), 205);
        CHECK.same("place()", b.x.place(), 5);
        CHECK.same("type(0)", b.x.type(0), 2);
        CHECK.same("number(0)", b.x.number(0), 4);
    }

    private static void inputsBehindARun() {
        CHECK.sentence("promise 17", "The inputs, from the first one on in each run");
        Bench b = new Bench();
        int input = b.input();
        b.x.assign(0, input);
        b.x.assign(1, input);
        CHECK.same("run(9)", b.x.run(9), 0);
        CHECK.same("no input", b.x.number(0), 0);
        b.x.feed(6);
        CHECK.same("of the run before", b.x.number(0), 0);
        CHECK.same("run(9)", b.x.run(9), 0);
        CHECK.same("one input", b.x.number(0), 6);
        CHECK.same("one input", b.x.number(1), 0);
        b.x.feed(7);
        CHECK.same("of the run before", b.x.number(1), 0);
        CHECK.same("run(9)", b.x.run(9), 0);
        CHECK.same("two inputs", b.x.number(0), 6);
        CHECK.same("two inputs", b.x.number(1), 7);
        b.x.feed(8);
        CHECK.same("run(1)", b.x.run(1), -2);
        b.x.feed(9);
        CHECK.same("of the run that was out", b.x.place(), 1);
        CHECK.same("of the run that was out", b.x.type(1), 8);
        CHECK.same("run(9)", b.x.run(9), 0);
        CHECK.same("four inputs", b.x.number(0), 6);
        CHECK.same("four inputs", b.x.number(1), 7);
    }

    private static void expressionsBehindARun() {
        CHECK.sentence("promises 2, 3, 18 to 20", "at the end of the latest run");
        Bench b = divider();
        b.x.feed(-3);
        CHECK.same("run(9)", b.x.run(9), 0);
        dividerHasRun("at once", b, -3, -4);
        for (int i = 0; i < 60; i++) {
            b.none();
        }
        CHECK.same("no more expressions", b.none(), -1);
        dividerHasRun("with sixty expressions", b, -3, -4);
        CHECK.same("run(9)", b.x.run(9), 0);
        dividerHasRun("once more", b, -3, -4);
    }

    private static void looksBehindARun() {
        CHECK.sentence("promises 13, 18 to 20", "at the end of the latest run");
        Bench b = divider();
        b.x.feed(2);
        CHECK.same("run(9)", b.x.run(9), 0);
        CHECK.same("look()", b.x.look(), 1);
        dividerHasRun("behind a look", b, 2, 5);
        b.x.branch(b.none());
        CHECK.same("look()", b.x.look(), -1);
        dividerHasRun("behind a look that is refused", b, 2, 5);
    }

    private static void refusedLooks() {
        CHECK.sentence("promise 13", "refused with -1 when a statement is open");
        Bench b = divider();
        int loop = b.x.loop(b.input());
        CHECK.same("look()", b.x.look(), -1);
        CHECK.same("no look so far", b.x.seen(0, 0), 0);
        CHECK.same("no look so far", b.x.seen(-1, 0), 0);
        CHECK.no("no look so far", b.x.alarm(3, 2));
        b.x.end();
        CHECK.same("still none", b.x.seen(0, 0), 0);
        CHECK.same("look()", b.x.look(), 1);
        dividerIsLooked("at once", b);
        b.x.attempt(0);
        CHECK.same("look()", b.x.look(), -1);
        b.x.raise(4);
        CHECK.same("look()", b.x.look(), -1);
        b.x.otherwise();
        CHECK.same("look()", b.x.look(), -1);
        dividerIsLooked("behind three that are refused", b);
        CHECK.same("the loop", b.x.seen(loop, 1), 9);
        b.x.end();
        CHECK.same("look()", b.x.look(), 1);
        dividerIsLooked("behind one more", b);
    }

    private static void refusedRuns() {
        CHECK.sentence("promise 17",
                "refused with -1 when a statement is open or limit is not 0 .. 1000");
        Bench b = divider();
        b.x.feed(2);
        CHECK.same("run(-1)", b.x.run(-1), -1);
        CHECK.same("no run so far", b.x.type(0), 8);
        CHECK.same("run(1000)", b.x.run(1000), 0);
        CHECK.same("run(1001)", b.x.run(1001), -1);
        CHECK.same("run(-1)", b.x.run(-1), -1);
        dividerHasRun("behind two that are refused", b, 2, 5);
        b.x.loop(b.number(1));
        CHECK.same("run(1000)", b.x.run(1000), -1);
        CHECK.same("run(0)", b.x.run(0), -1);
        dividerHasRun("behind two more", b, 2, 5);
        b.x.end();
        dividerHasRun("with a closed loop", b, 2, 5);
        CHECK.same("run(1000)", b.x.run(1000), -2);
        CHECK.same("place()", b.x.place(), 3);
        CHECK.same("run(1001)", b.x.run(1001), -1);
        CHECK.same("place()", b.x.place(), 3);
    }

    private static void growingEndOfTheProgram() {
        CHECK.sentence("terms", "new statements go to the end of the innermost open block");
        Bench b = new Bench();
        int v0 = b.variable(0);
        int more = b.add(v0, b.number(1));
        b.x.assign(0, b.number(0));
        for (int s = 1; s < 24; s++) {
            CHECK.same("look()", b.x.look(), 0);
            CHECK.numbers("behind the program", b.x, -1, 0, Math.min(s - 1, 16),
                    Math.min(s - 1, 17));
            CHECK.same("run", b.x.run(s), 0);
            CHECK.same("number(0)", b.x.number(0), s - 1);
            CHECK.same("assign", b.x.assign(0, more), s);
            CHECK.same("out before the new one", b.x.run(s), -2);
            CHECK.same("place()", b.x.place(), s);
            CHECK.same("number(0)", b.x.number(0), s - 1);
        }
        CHECK.same("no more statements", b.x.assign(0, more), -1);
    }

    private static void growingEndOfALoop() {
        CHECK.sentence("terms", "Behind a loop: also the states at each BREAK.");
        Bench b = new Bench();
        int input = b.input();
        int text = b.text(2);
        int loop = b.x.loop(input);
        b.x.branch(input);
        b.x.assign(0, text);
        b.x.leave(false);
        b.x.end();
        b.x.end();
        b.x.feed(1);
        b.x.feed(1);
        CHECK.same("look()", b.x.look(), 0);
        CHECK.same("behind the program", b.x.seen(-1, 0), 10);
        CHECK.same("run(9)", b.x.run(9), 0);
        CHECK.same("type(0)", b.x.type(0), 2);
        int next = b.x.assign(1, b.length(b.variable(0)));
        CHECK.same("look()", b.x.look(), 1);
        CHECK.yes("it may be unbound", b.x.alarm(2, next));
        CHECK.same("before the loop", b.x.seen(loop, 0), 8);
        CHECK.same("behind the loop", b.x.seen(next, 0), 10);
        CHECK.same("behind the program", b.x.seen(-1, 0), 10);
        CHECK.numbers("behind the program", b.x, -1, 1, 2, 2);
        CHECK.same("run(9)", b.x.run(9), 0);
        CHECK.same("number(1)", b.x.number(1), 2);
    }

    private static void growingEndOfATry() {
        CHECK.sentence("terms", "its second block is done, and then what stands behind the TRY");
        Bench b = new Bench();
        int input = b.input();
        int quotient = b.divide(b.number(8), input);
        b.x.attempt(3);
        b.x.assign(0, quotient);
        b.x.otherwise();
        b.x.assign(0, b.none());
        b.x.end();
        CHECK.same("look()", b.x.look(), 0);
        CHECK.same("behind the program", b.x.seen(-1, 0), 5);
        CHECK.same("an input of 0", b.x.run(9), 0);
        CHECK.same("type(0)", b.x.type(0), 4);
        int next = b.x.assign(1, b.add(b.variable(0), b.number(1)));
        CHECK.same("look()", b.x.look(), 1);
        CHECK.yes("it may be none", b.x.alarm(1, next));
        CHECK.same("an input of 0", b.x.run(9), 100 + next);
        CHECK.same("place()", b.x.place(), next);
        b.x.feed(4);
        CHECK.same("an input of 4", b.x.run(9), 0);
        CHECK.same("number(1)", b.x.number(1), 3);
    }

    private static void runsOneAfterTheOther() {
        CHECK.sentence("promise 17", "Runs the program, all variables unbound at first");
        Bench b = divider();
        b.x.feed(2);
        int[] limits = {9, 0, 1, 2, 3, 9, 2, 1, 0};
        for (int limit : limits) {
            boolean ends = limit >= 3;
            String run = "run(" + limit + ")";
            CHECK.same(run, b.x.run(limit), ends ? 0 : -2);
            CHECK.same(run + " place()", b.x.place(), ends ? -1 : limit);
            CHECK.same(run + " type(0)", b.x.type(0), limit >= 1 ? 1 : 8);
            CHECK.same(run + " number(0)", b.x.number(0), limit >= 1 ? 2 : 0);
            CHECK.same(run + " type(1)", b.x.type(1), ends ? 1 : 8);
            CHECK.same(run + " number(1)", b.x.number(1), ends ? 5 : 0);
        }
    }

    private static void looksOneAfterTheOther() {
        CHECK.sentence("promise 13", "Looks through the program as it is now.");
        Bench b = new Bench();
        int unknown = b.variable(3);
        int text = b.text(1);
        for (int s = 0; s < 24; s += 3) {
            b.x.attempt(1);
            b.x.raise(2);
            CHECK.same("look()", b.x.look(), -1);
            b.x.otherwise();
            CHECK.same("in a block that is not reached", b.x.assign(1, text), s + 2);
            b.x.end();
            CHECK.same("nothing is reached behind the first one", b.x.look(), 1);
            CHECK.same("nor behind the program", b.x.seen(-1, 3), 0);
            CHECK.yes("alarm(2, 1)", b.x.alarm(2, 1));
            CHECK.same("statement " + s, b.x.seen(s, 3), s == 0 ? 8 : 0);
        }
        CHECK.same("no more statements", b.x.assign(0, unknown), -1);
        CHECK.same("look()", b.x.look(), 1);
    }

    private static void firstLookOfAnOpenProgram() {
        CHECK.sentence("promises 13 to 18", "there was no looking through yet");
        Bench b = new Bench();
        int e = b.number(5);
        for (int level = 0; level < 5; level++) {
            b.x.branch(e);
        }
        CHECK.same("a sixth", b.x.loop(e), -1);
        CHECK.same("goes into the fifth", b.x.assign(0, e), 5);
        for (int level = 5; level > 0; level--) {
            CHECK.same("look()", b.x.look(), -1);
            CHECK.same("run(9)", b.x.run(9), -1);
            CHECK.same("seen(5, 0)", b.x.seen(5, 0), 0);
            CHECK.same("place()", b.x.place(), -1);
            CHECK.same("type(0)", b.x.type(0), 8);
            CHECK.yes("end()", b.x.end());
        }
        CHECK.same("look()", b.x.look(), 0);
        CHECK.same("seen(5, 0)", b.x.seen(5, 0), 8);
        CHECK.numbers("behind the program", b.x, -1, 0, 5, 5);
        CHECK.same("run(9)", b.x.run(9), 0);
        CHECK.same("number(0)", b.x.number(0), 5);
    }

    private static void lastCallOfAnObject() {
        CHECK.sentence("what it is",
                "An object is used for at most 512 calls after it has been made");
        TypeForecast x = new TypeForecast();
        x.leaf(4, 0);
        x.assign(0, 0);
        x.feed(3);
        for (int call = 3; call < 510; call += 3) {
            CHECK.same("look(), call " + call, x.look(), 0);
            CHECK.same("run(1), call " + call, x.run(1), 0);
            CHECK.same("number(0), call " + call, x.number(0), 3);
        }
        CHECK.same("the 511th call", x.seen(-1, 0), 1);
        CHECK.same("the 512th call", x.assign(1, 0), 1);
    }
}
