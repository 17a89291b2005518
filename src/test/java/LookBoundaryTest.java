/** Promises 13 to 16: each sentence that names a boundary case. */
public final class LookBoundaryTest {
    private static final Check CHECK = new Check();
    private static final int MIN = Bench.MIN;
    private static final int MAX = Bench.MAX;
    private static final String NO_ALARM =
            "an alarm of this kind at this statement (false when there was none)";
    private static final String NO_BOUND =
            "99 when seen(statement, v) does not say that it may be of that type";

    public static void main(String[] args) {
        lookAtNoStatement();
        lookAtTheProgramAsItIsNow();
        lookCountsAKindAtAStatementOnce();
        lookCountsNoAlarm();
        lookCountsMostAlarms();
        lookWhileOpen();
        alarmOfThisKind();
        alarmAtThisStatement();
        alarmWithoutLook();
        alarmOfTheLatestLook();
        alarmOfALaterStatement();
        alarmOfNoKind();
        alarmOfNoStatement();
        seenBehindTheProgram();
        seenBehindNoStatement();
        seenOfEachType();
        seenWhereNothingIsReached();
        seenWithoutLook();
        seenOfALaterStatement();
        seenOfNoVariable();
        seenOfNoStatement();
        boundOfEachSide();
        boundOfAnotherType();
        boundWhereNothingIsReached();
        boundWithoutLook();
        boundOfALaterStatement();
        boundOfNoVariableOrStatement();
        boundOfNoSide();
        CHECK.finish();
    }

    private static void lookAtNoStatement() {
        CHECK.sentence("promise 13", "Answers how many alarms there are");
        TypeForecast x = new TypeForecast();
        CHECK.same("a program with no statement", x.look(), 0);
        CHECK.same("again", x.look(), 0);
        x.leaf(0, 1);
        x.feed(1);
        CHECK.same("with an expression and an input", x.look(), 0);
        for (int kind = 1; kind <= 4; kind++) {
            CHECK.no("alarm(" + kind + ", 0)", x.alarm(kind, 0));
        }
    }

    private static void lookAtTheProgramAsItIsNow() {
        CHECK.sentence("promise 13", "Looks through the program as it is now.");
        Bench b = new Bench();
        CHECK.same("no statement", b.x.look(), 0);
        CHECK.same("seen(-1, 0)", b.x.seen(-1, 0), 8);
        b.x.assign(0, b.number(3));
        CHECK.same("one statement", b.x.look(), 0);
        CHECK.numbers("one statement", b.x, -1, 0, 3, 3);
        b.x.assign(1, b.variable(2));
        CHECK.same("two statements", b.x.look(), 1);
        CHECK.same("nothing is behind", b.x.seen(-1, 0), 0);
        CHECK.same("again", b.x.look(), 1);
        CHECK.same("nothing is behind", b.x.seen(-1, 0), 0);
        b.x.raise(4);
        CHECK.same("a third one that is not reached", b.x.look(), 1);

        Bench c = new Bench();
        int[] leaves = {c.none(), c.text(3), c.number(3), c.none(), c.input(), c.text(17)};
        int[] types = {4, 2, 1, 4, 1, 2};
        for (int i = 0; i < leaves.length; i++) {
            c.x.assign(1, leaves[i]);
            CHECK.same("look()", c.x.look(), 0);
            CHECK.same("only what was assigned last", c.x.seen(-1, 1), types[i]);
            CHECK.same("before the program", c.x.seen(0, 1), 8);
            CHECK.same("another variable", c.x.seen(-1, 2), 8);
        }
    }

    private static void lookCountsAKindAtAStatementOnce() {
        CHECK.sentence("promise 13", "a kind at a statement counts once");
        Bench b = new Bench();
        int quotient = b.divide(b.number(1), b.input());
        int twice = b.add(quotient, quotient);
        b.x.assign(0, twice);
        CHECK.same("twice in an expression", b.x.look(), 1);
        b.x.loop(b.input());
        b.x.assign(0, quotient);
        b.x.end();
        CHECK.same("again and again in a loop", b.x.look(), 2);
        b.x.assign(0, twice);
        CHECK.same("at another statement", b.x.look(), 3);
        b.x.assign(0, b.add(quotient, b.variable(1)));
        CHECK.same("two kinds at a statement", b.x.look(), 5);
    }

    private static void lookCountsNoAlarm() {
        CHECK.sentence("promise 13", "Answers how many alarms there are");
        for (int kind = 1; kind <= 4; kind++) {
            Bench b = new Bench();
            b.x.attempt(kind);
            b.x.raise(kind);
            b.x.end();
            CHECK.same("caught error " + kind, b.x.look(), 0);
            b.x.raise(kind);
            CHECK.same("uncaught error " + kind, b.x.look(), 1);
        }
    }

    private static void lookCountsMostAlarms() {
        CHECK.sentence("promise 13", "Answers how many alarms there are");
        Bench b = new Bench();
        b.perhaps(0, b.none());
        b.perhaps(0, b.input());
        int quotient = b.divide(b.variable(0), b.variable(0));
        for (int s = 4; s < 23; s++) {
            b.x.assign(1, quotient);
        }
        b.x.raise(4);
        CHECK.same("three kinds at 19 statements, and one at the last", b.x.look(), 58);
        for (int s = 0; s < 24; s++) {
            for (int kind = 1; kind <= 4; kind++) {
                boolean due = s == 23 ? kind == 4 : s >= 4 && kind < 4;
                CHECK.same("alarm(" + kind + ", " + s + ")", b.x.alarm(kind, s) ? 1 : 0,
                        due ? 1 : 0);
            }
        }
    }

    private static void lookWhileOpen() {
        CHECK.sentence("promise 13", "refused with -1 when a statement is open");
        for (int which = 0; which < 3; which++) {
            Bench b = new Bench();
            int zero = b.number(0);
            CHECK.same("nothing is open", b.x.look(), 0);
            int s = which == 0 ? b.x.branch(zero) : which == 1 ? b.x.loop(zero) : b.x.attempt(0);
            CHECK.same("opener " + which + " is open", b.x.look(), -1);
            b.x.otherwise();
            CHECK.same("its second block is open", b.x.look(), -1);
            b.x.attempt(0);
            CHECK.same("two are open", b.x.look(), -1);
            b.x.end();
            CHECK.same("one is open", b.x.look(), -1);
            b.x.end();
            CHECK.same("none is open", b.x.look(), 0);
            CHECK.same("seen", b.x.seen(s, 0), 8);
        }
    }

    private static void alarmOfThisKind() {
        CHECK.sentence("promise 14", "an alarm of this kind at this statement");
        for (int raised = 1; raised <= 4; raised++) {
            TypeForecast x = new TypeForecast();
            x.raise(raised);
            x.look();
            for (int kind = 1; kind <= 4; kind++) {
                boolean alarm = x.alarm(kind, 0);
                CHECK.same(kind + " for " + raised, alarm ? 1 : 0, kind == raised ? 1 : 0);
            }
        }
    }

    private static void alarmAtThisStatement() {
        CHECK.sentence("promise 14", "an alarm of this kind at this statement");
        for (int at = 0; at < 24; at++) {
            Bench b = new Bench();
            int one = b.number(1);
            int unbound = b.variable(1);
            for (int s = 0; s < 24; s++) {
                b.x.assign(0, s == at ? unbound : one);
            }
            CHECK.same("look()", b.x.look(), 1);
            for (int s = 0; s < 24; s++) {
                CHECK.same("alarm(2, " + s + ")", b.x.alarm(2, s) ? 1 : 0, s == at ? 1 : 0);
            }
        }
    }

    private static void alarmWithoutLook() {
        CHECK.sentence("promise 14", "false when there was none");
        TypeForecast x = new TypeForecast();
        for (int kind = 1; kind <= 4; kind++) {
            x.attempt(kind % 4 + 1);
            x.raise(kind);
            x.end();
        }
        x.run(9);
        for (int kind = 1; kind <= 4; kind++) {
            for (int s = 0; s < 8; s++) {
                CHECK.no("alarm(" + kind + ", " + s + ")", x.alarm(kind, s));
            }
        }
        x.attempt(0);
        x.look();
        CHECK.no("a refused looking through is none", x.alarm(1, 1));
        x.end();
        x.look();
        CHECK.yes("there was one", x.alarm(1, 1));
    }

    private static void alarmOfTheLatestLook() {
        CHECK.sentence("promise 14", "Whether the latest looking through gave an alarm");
        Bench b = new Bench();
        int s = b.x.assign(0, b.variable(1));
        b.x.look();
        CHECK.yes("an alarm", b.x.alarm(2, s));
        b.x.branch(b.number(1));
        b.x.look();
        CHECK.yes("a refused looking through changes nothing", b.x.alarm(2, s));
        b.x.end();
        b.x.look();
        CHECK.yes("in the next one", b.x.alarm(2, s));
        b.x.run(9);
        CHECK.yes("a run changes nothing", b.x.alarm(2, s));
    }

    private static void alarmOfALaterStatement() {
        CHECK.sentence("promise 14", "Whether the latest looking through gave an alarm");
        TypeForecast x = new TypeForecast();
        x.attempt(0);
        x.end();
        x.look();
        int s = x.raise(2);
        for (int kind = 1; kind <= 4; kind++) {
            CHECK.no("a statement that was added later", x.alarm(kind, s));
        }
        x.look();
        CHECK.yes("after the next looking through", x.alarm(2, s));
    }

    private static void alarmOfNoKind() {
        CHECK.sentence("promise 14", NO_ALARM);
        TypeForecast x = new TypeForecast();
        x.attempt(1);
        x.raise(4);
        x.end();
        x.raise(1);
        x.look();
        CHECK.yes("alarm(4, 1)", x.alarm(4, 1));
        for (int kind : new int[] {0, 5, -1, 6, 9, -4, MIN, MAX}) {
            for (int s = 0; s < 3; s++) {
                CHECK.no("alarm(" + kind + ", " + s + ")", x.alarm(kind, s));
            }
        }
    }

    private static void alarmOfNoStatement() {
        CHECK.sentence("promise 14", NO_ALARM);
        TypeForecast x = new TypeForecast();
        CHECK.no("no statement at all", x.alarm(1, 0));
        x.raise(1);
        x.look();
        for (int s : new int[] {-1, -2, 1, 2, 23, 24, 25, MIN, MAX}) {
            for (int kind = 1; kind <= 4; kind++) {
                CHECK.no("alarm(" + kind + ", " + s + ")", x.alarm(kind, s));
            }
        }
    }

    private static void seenBehindTheProgram() {
        CHECK.sentence("promise 15", "for statement = -1, behind the whole program");
        Bench b = new Bench();
        int s = b.x.assign(0, b.number(1));
        b.x.look();
        CHECK.same("before the last statement", b.x.seen(s, 0), 8);
        CHECK.same("behind it", b.x.seen(-1, 0), 1);
        b.x.branch(b.input());
        int last = b.x.assign(0, b.none());
        b.x.end();
        b.x.look();
        CHECK.same("before the last statement, in a block", b.x.seen(last, 0), 1);
        CHECK.same("behind the block", b.x.seen(-1, 0), 5);
        Bench full = new Bench();
        int none = full.none();
        for (int i = 0; i < 24; i++) {
            full.x.assign(i % 5, none);
        }
        full.x.look();
        CHECK.same("before statement 23", full.x.seen(23, 0), 4);
        CHECK.same("behind statement 23", full.x.seen(-1, 3), 4);
    }

    private static void seenBehindNoStatement() {
        CHECK.sentence("promise 15", "for statement = -1, behind the whole program");
        TypeForecast x = new TypeForecast();
        x.look();
        for (int v = 0; v < 5; v++) {
            CHECK.same("seen(-1, " + v + ")", x.seen(-1, v), 8);
            CHECK.same("seen(0, " + v + ")", x.seen(0, v), -1);
        }
    }

    private static void seenOfEachType() {
        CHECK.sentence("promise 15",
                "1 for a number, plus 2 for a text, plus 4 for none, plus 8 for unbound");
        for (int types = 1; types < 16; types++) {
            Bench b = new Bench();
            int[] leaves = {b.number(0), b.text(0), b.none()};
            boolean first = true;
            for (int i = 0; i < 3; i++) {
                if ((types >> i & 1) != 0) {
                    if (first && (types & 8) == 0) {
                        b.x.assign(3, leaves[i]);
                    } else {
                        b.perhaps(3, leaves[i]);
                    }
                    first = false;
                }
            }
            int mark = b.x.assign(0, leaves[2]);
            b.x.look();
            CHECK.same("before a statement", b.x.seen(mark, 3), types);
            CHECK.same("behind the program", b.x.seen(-1, 3), types);
        }
    }

    private static void seenWhereNothingIsReached() {
        CHECK.sentence("promise 15", "0 when this place is not reached");
        Bench b = new Bench();
        b.x.assign(0, b.number(1));
        int raise = b.x.raise(4);
        int behind = b.x.assign(1, b.number(1));
        b.x.look();
        for (int v = 0; v < 5; v++) {
            CHECK.yes("a place that is reached", b.x.seen(raise, v) > 0);
            CHECK.same("a statement that is not reached", b.x.seen(behind, v), 0);
            CHECK.same("the end, which is not reached", b.x.seen(-1, v), 0);
        }
    }

    private static void seenWithoutLook() {
        CHECK.sentence("promise 15", "there was no looking through yet");
        Bench b = new Bench();
        b.x.assign(0, b.number(1));
        b.x.assign(1, b.number(1));
        b.x.run(9);
        for (int v = 0; v < 5; v++) {
            CHECK.same("before statement 0", b.x.seen(0, v), 0);
            CHECK.same("before statement 1", b.x.seen(1, v), 0);
            CHECK.same("behind the program", b.x.seen(-1, v), 0);
        }
        b.x.attempt(0);
        b.x.look();
        CHECK.same("a refused one is none", b.x.seen(0, 0), 0);
        CHECK.same("a refused one is none", b.x.seen(-1, 0), 0);
        CHECK.same("there is still no statement 3", b.x.seen(3, 0), -1);
        CHECK.same("there is still no variable 5", b.x.seen(0, 5), -1);
    }

    private static void seenOfALaterStatement() {
        CHECK.sentence("promise 15", "the statement was added later");
        Bench b = new Bench();
        b.x.look();
        int first = b.x.assign(0, b.number(1));
        CHECK.same("added after a look at nothing", b.x.seen(first, 0), 0);
        CHECK.same("behind the program as it was", b.x.seen(-1, 0), 8);
        b.x.look();
        int loop = b.x.loop(b.number(0));
        int inside = b.x.assign(1, b.none());
        CHECK.same("added and open", b.x.seen(loop, 0), 0);
        CHECK.same("added in a block", b.x.seen(inside, 0), 0);
        CHECK.same("refused", b.x.look(), -1);
        CHECK.same("before the earlier one", b.x.seen(first, 0), 8);
        CHECK.same("behind the program as it was", b.x.seen(-1, 0), 1);
        b.x.end();
        CHECK.same("added and closed", b.x.seen(loop, 0), 0);
        b.x.look();
        CHECK.same("after the next looking through", b.x.seen(loop, 0), 1);
    }

    private static void seenOfNoVariable() {
        CHECK.sentence("promise 15", "-1 when there is no such variable");
        Bench b = new Bench();
        b.x.assign(4, b.number(1));
        for (int round = 0; round < 2; round++) {
            for (int v : new int[] {-1, 5, -2, 6, MIN, MAX}) {
                CHECK.same("seen(0, " + v + ")", b.x.seen(0, v), -1);
                CHECK.same("seen(-1, " + v + ")", b.x.seen(-1, v), -1);
                CHECK.same("seen(9, " + v + ")", b.x.seen(9, v), -1);
            }
            b.x.look();
        }
        CHECK.same("seen(0, 0)", b.x.seen(0, 0), 8);
        CHECK.same("seen(-1, 4)", b.x.seen(-1, 4), 1);
    }

    private static void seenOfNoStatement() {
        CHECK.sentence("promise 15", "-1 when there is no such variable or statement");
        Bench b = new Bench();
        CHECK.same("seen(0, 0) of nothing", b.x.seen(0, 0), -1);
        b.x.assign(0, b.number(1));
        b.x.assign(0, b.number(1));
        for (int round = 0; round < 2; round++) {
            for (int s : new int[] {-2, 2, 3, 23, 24, 25, MIN, MAX}) {
                CHECK.same("seen(" + s + ", 0)", b.x.seen(s, 0), -1);
            }
            b.x.look();
        }
        CHECK.same("seen(0, 0)", b.x.seen(0, 0), 8);
        CHECK.same("seen(1, 0)", b.x.seen(1, 0), 1);
        CHECK.same("seen(-1, 0)", b.x.seen(-1, 0), 1);
    }

    private static void bounds(String what, TypeForecast x, int s, int v, int... due) {
        for (int which = 0; which < 4; which++) {
            CHECK.same(what + ", which = " + which, x.bound(s, v, which), due[which]);
        }
    }

    private static void boundOfEachSide() {
        CHECK.sentence("promise 16",
                "which = 0 the low one, 1 the high one of its numbers, 2 the low one, 3"
                        + " the high one of the lengths of its texts");
        Bench b = new Bench();
        b.oneOf(2, b.number(-3), b.number(5), b.text(2), b.text(7));
        int mark = b.x.assign(1, b.none());
        b.oneOf(3, b.input(), b.text(0), b.text(17));
        b.x.look();
        bounds("before a statement", b.x, mark, 2, -3, 5, 2, 7);
        bounds("behind the program", b.x, -1, 2, -3, 5, 2, 7);
        bounds("no bounds", b.x, -1, 3, -17, 17, 0, 17);
    }

    private static void boundOfAnotherType() {
        CHECK.sentence("promise 16", NO_BOUND);
        Bench b = new Bench();
        b.x.assign(0, b.number(16));
        b.x.assign(1, b.text(16));
        b.x.assign(2, b.none());
        b.perhaps(3, b.text(0));
        b.x.look();
        bounds("a number", b.x, -1, 0, 16, 16, 99, 99);
        bounds("a text", b.x, -1, 1, 99, 99, 16, 16);
        bounds("none", b.x, -1, 2, 99, 99, 99, 99);
        bounds("a text or unbound", b.x, -1, 3, 99, 99, 0, 0);
        bounds("unbound", b.x, -1, 4, 99, 99, 99, 99);
    }

    private static void boundWhereNothingIsReached() {
        CHECK.sentence("promise 16", NO_BOUND);
        Bench b = new Bench();
        b.x.assign(0, b.number(1));
        int raise = b.x.raise(1);
        int behind = b.x.assign(0, b.text(1));
        b.x.look();
        bounds("before RAISE", b.x, raise, 0, 1, 1, 99, 99);
        bounds("behind RAISE", b.x, behind, 0, 99, 99, 99, 99);
        bounds("behind the program", b.x, -1, 0, 99, 99, 99, 99);
    }

    private static void boundWithoutLook() {
        CHECK.sentence("promise 16", NO_BOUND);
        Bench b = new Bench();
        bounds("no statement, no look", b.x, -1, 0, 99, 99, 99, 99);
        b.x.look();
        bounds("no statement", b.x, -1, 0, 99, 99, 99, 99);
        Bench c = new Bench();
        c.x.assign(0, c.number(1));
        c.x.assign(1, c.text(1));
        c.x.run(9);
        bounds("before a statement", c.x, 1, 0, 99, 99, 99, 99);
        bounds("behind the program", c.x, -1, 1, 99, 99, 99, 99);
    }

    private static void boundOfALaterStatement() {
        CHECK.sentence("promise 16", NO_BOUND);
        Bench b = new Bench();
        b.x.assign(0, b.number(1));
        b.x.look();
        int later = b.x.assign(0, b.text(1));
        bounds("a statement that was added later", b.x, later, 0, 99, 99, 99, 99);
        bounds("behind the program as it was", b.x, -1, 0, 1, 1, 99, 99);
        b.x.look();
        bounds("after the next looking through", b.x, later, 0, 1, 1, 99, 99);
        bounds("after the next looking through", b.x, -1, 0, 99, 99, 1, 1);
    }

    private static void boundOfNoVariableOrStatement() {
        CHECK.sentence("promise 16", NO_BOUND);
        Bench b = new Bench();
        b.oneOf(0, b.number(1), b.text(1));
        b.oneOf(4, b.number(1), b.text(1));
        b.x.look();
        for (int v : new int[] {-1, 5, MIN, MAX}) {
            bounds("variable " + v, b.x, -1, v, 99, 99, 99, 99);
            bounds("variable " + v, b.x, 0, v, 99, 99, 99, 99);
        }
        for (int s : new int[] {-2, 6, 23, 24, 25, MIN, MAX}) {
            bounds("statement " + s, b.x, s, 0, 99, 99, 99, 99);
        }
        bounds("variable 0", b.x, -1, 0, 1, 1, 1, 1);
        bounds("variable 4", b.x, -1, 4, 1, 1, 1, 1);
    }

    private static void boundOfNoSide() {
        CHECK.sentence("promise 16", "which is not 0 .. 3");
        Bench b = new Bench();
        b.oneOf(0, b.number(1), b.text(1));
        int mark = b.x.assign(1, b.none());
        b.x.look();
        for (int which : new int[] {-1, 4, -2, 5, -3, 6, MIN, MAX}) {
            CHECK.same("which = " + which, b.x.bound(-1, 0, which), 99);
            CHECK.same("which = " + which, b.x.bound(mark, 0, which), 99);
        }
        bounds("0 .. 3", b.x, -1, 0, 1, 1, 1, 1);
    }
}
