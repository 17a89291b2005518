/** Promises 13 to 16: what the looking through finds. */
public final class LookTest {
    private static final Check CHECK = new Check();
    private static final int NONE = -17;
    private static final int FREE = 17;

    public static void main(String[] args) {
        promise13Look();
        promise13LatestLook();
        promise13CountsAlarmsOnce();
        promise14Alarm();
        promise15Seen();
        promise16Bound();
        promise16Edges();
        partsWithoutValueEndTheWork();
        errorsGoToTheInnermostCatcher();
        errorsCarryTheStateBefore();
        errorsOfLoopConditions();
        loopsJoinAllWaysIn();
        loopsThatDoNotEnd();
        nestedLoops();
        emptyBlocks();
        unreachedStatements();
        narrowingByVariable();
        narrowingByLess();
        narrowingByEqual();
        narrowingLeavesOthersAlone();
        inputsAreAllNumbers();
        variablesThatMayBeUnbound();
        CHECK.finish();
    }

    private static void numbers(String what, TypeForecast x, int s, int v, int low, int high) {
        CHECK.same(what + ": number among the types", x.seen(s, v) & 1, 1);
        CHECK.same(what + ": low", x.bound(s, v, 0), low);
        CHECK.same(what + ": high", x.bound(s, v, 1), high);
    }

    private static void lengths(String what, TypeForecast x, int s, int v, int low, int high) {
        CHECK.same(what + ": text among the types", x.seen(s, v) & 2, 2);
        CHECK.same(what + ": low length", x.bound(s, v, 2), low);
        CHECK.same(what + ": high length", x.bound(s, v, 3), high);
    }

    private static void promise13Look() {
        TypeForecast x = new TypeForecast();
        CHECK.same("look at nothing", x.look(), 0);
        x.leaf(3, 0);
        x.assign(1, 0);
        CHECK.same("unbound variable", x.look(), 1);
        CHECK.yes("error 2", x.alarm(2, 0));
        x.attempt(2);
        CHECK.same("refused while a TRY is open", x.look(), -1);
        x.otherwise();
        CHECK.same("refused in its second block", x.look(), -1);
        x.end();
        CHECK.same("look again", x.look(), 1);
    }

    private static void promise13LatestLook() {
        TypeForecast x = new TypeForecast();
        int three = x.leaf(0, 3);
        x.assign(0, three);
        x.look();
        int later = x.assign(1, three);
        x.raise(4);
        CHECK.same("statement added later", x.seen(later, 0), 0);
        CHECK.same("bound of a statement added later", x.bound(later, 0, 0), 99);
        CHECK.no("alarm of a statement added later", x.alarm(4, 2));
        CHECK.same("behind the program as it was", x.seen(-1, 1), 8);
        numbers("behind the program as it was", x, -1, 0, 3, 3);
        CHECK.same("look", x.look(), 1);
        CHECK.same("seen now", x.seen(later, 0), 1);
        CHECK.same("nothing is behind now", x.seen(-1, 0), 0);
        CHECK.yes("alarm now", x.alarm(4, 2));
        x.loop(three);
        CHECK.same("refused look", x.look(), -1);
        CHECK.yes("alarm as before", x.alarm(4, 2));
        CHECK.same("seen as before", x.seen(later, 0), 1);
    }

    private static void promise13CountsAlarmsOnce() {
        TypeForecast x = new TypeForecast();
        int input = x.leaf(4, 0);
        int none = x.leaf(2, 0);
        int unbound = x.leaf(3, 0);
        int quotient = x.apply(3, input, input);
        int twice = x.apply(0, quotient, quotient);
        int mixed = x.apply(0, twice, none);
        int worse = x.apply(5, mixed, unbound);
        x.assign(1, twice);
        CHECK.same("the same kind twice in a statement", x.look(), 1);
        x.assign(1, worse);
        CHECK.same("3 again, and 1; the right part is not worked out", x.look(), 3);
        CHECK.yes("3 at 1", x.alarm(3, 1));
        CHECK.yes("1 at 1", x.alarm(1, 1));
        CHECK.no("2 at 1", x.alarm(2, 1));
    }

    private static void promise14Alarm() {
        TypeForecast x = new TypeForecast();
        x.raise(1);
        CHECK.no("before a look", x.alarm(1, 0));
        x.look();
        CHECK.yes("alarm(1, 0)", x.alarm(1, 0));
        for (int kind = 2; kind <= 4; kind++) {
            CHECK.no("another kind", x.alarm(kind, 0));
        }
        int[] odd = {-1, 0, 5, 6, -5, Integer.MIN_VALUE, Integer.MAX_VALUE};
        for (int kind : odd) {
            CHECK.no("no such kind", x.alarm(kind, 0));
        }
        int[] far = {-1, -2, 1, 23, 24, 25, Integer.MIN_VALUE, Integer.MAX_VALUE};
        for (int statement : far) {
            CHECK.no("no such statement", x.alarm(1, statement));
        }
    }

    private static void promise15Seen() {
        TypeForecast x = new TypeForecast();
        int input = x.leaf(4, 0);
        int text = x.leaf(1, 2);
        int none = x.leaf(2, 0);
        x.branch(input);
        x.assign(0, text);
        x.branch(input);
        x.assign(0, none);
        x.assign(1, none);
        x.end();
        x.otherwise();
        x.assign(0, input);
        x.end();
        int behind = x.branch(input);
        x.assign(2, text);
        x.end();
        CHECK.same("before a look", x.seen(0, 0), 0);
        CHECK.same("before a look, behind", x.seen(-1, 0), 0);
        CHECK.same("look", x.look(), 0);
        CHECK.same("at first", x.seen(0, 0), 8);
        CHECK.same("all types", x.seen(behind, 0), 7);
        CHECK.same("none or unbound", x.seen(behind, 1), 12);
        CHECK.same("text or unbound", x.seen(-1, 2), 10);
        CHECK.same("unbound alone", x.seen(-1, 4), 8);
        CHECK.same("no variable -1", x.seen(0, -1), -1);
        CHECK.same("no variable 5", x.seen(0, 5), -1);
        CHECK.same("no variable at the end", x.seen(-1, 5), -1);
        CHECK.same("no statement -2", x.seen(-2, 0), -1);
        CHECK.same("no statement 8", x.seen(8, 0), -1);
        CHECK.same("no statement 24", x.seen(24, 0), -1);
        CHECK.same("no statement max", x.seen(Integer.MAX_VALUE, 0), -1);
    }

    private static void promise16Bound() {
        TypeForecast x = new TypeForecast();
        int input = x.leaf(4, 0);
        int text = x.leaf(1, 2);
        int three = x.leaf(0, -3);
        CHECK.same("before a look", x.bound(-1, 0, 0), 99);
        x.branch(input);
        x.assign(0, text);
        x.otherwise();
        x.assign(0, three);
        x.end();
        x.assign(1, text);
        x.assign(2, three);
        x.look();
        int[] both = {-3, -3, 2, 2};
        int[] textAlone = {99, 99, 2, 2};
        int[] numberAlone = {-3, -3, 99, 99};
        for (int which = 0; which < 4; which++) {
            CHECK.same("both " + which, x.bound(-1, 0, which), both[which]);
            CHECK.same("text " + which, x.bound(-1, 1, which), textAlone[which]);
            CHECK.same("number " + which, x.bound(-1, 2, which), numberAlone[which]);
            CHECK.same("unbound " + which, x.bound(-1, 3, which), 99);
            CHECK.same("no variable", x.bound(-1, 5, which), 99);
            CHECK.same("no variable", x.bound(-1, -1, which), 99);
            CHECK.same("no statement", x.bound(-2, 0, which), 99);
            CHECK.same("no statement", x.bound(5, 0, which), 99);
        }
        int[] odd = {-1, 4, -2, 5, Integer.MIN_VALUE, Integer.MAX_VALUE};
        for (int which : odd) {
            CHECK.same("no such bound", x.bound(-1, 0, which), 99);
        }
    }

    /** A lone number beyond 16 fits a picture with one open side. */
    private static void promise16Edges() {
        int[] n = {0, 15, 16, 17, 1000000000, -15, -16, -17, -1000000000};
        int[] low = {0, 15, 16, 16, 16, -15, -16, NONE, NONE};
        int[] high = {0, 15, 16, FREE, FREE, -15, -16, -16, -16};
        for (int i = 0; i < n.length; i++) {
            TypeForecast x = new TypeForecast();
            x.assign(0, x.leaf(0, n[i]));
            if (n[i] >= 0) {
                x.assign(1, x.leaf(1, n[i]));
            }
            x.look();
            numbers("number " + n[i], x, -1, 0, low[i], high[i]);
            if (n[i] >= 0) {
                lengths("length " + n[i], x, -1, 1, low[i], high[i]);
            }
        }
    }

    private static void partsWithoutValueEndTheWork() {
        TypeForecast x = new TypeForecast();
        int unbound = x.leaf(3, 0);
        int none = x.leaf(2, 0);
        int zero = x.leaf(0, 0);
        int wrong = x.apply(1, none, zero);
        int leftFirst = x.apply(3, unbound, wrong);
        int rightFirst = x.apply(3, wrong, unbound);
        int s = x.attempt(2);
        x.assign(1, leftFirst);
        x.end();
        CHECK.same("only the left part's error", x.look(), 0);
        CHECK.same("the error's state goes on", x.seen(-1, 1), 8);
        x.attempt(1);
        x.assign(1, rightFirst);
        x.end();
        CHECK.same("only the left part's error again", x.look(), 0);
        int divide = x.assign(2, x.apply(3, none, zero));
        CHECK.same("none / 0 is no division by zero", x.look(), 1);
        CHECK.yes("it is a wrong type", x.alarm(1, divide));
        CHECK.no("and not the other", x.alarm(3, divide));
        CHECK.same("nothing is behind", x.seen(-1, s), 0);
    }

    private static void errorsGoToTheInnermostCatcher() {
        TypeForecast x = new TypeForecast();
        int one = x.leaf(0, 1);
        x.attempt(0);
        x.attempt(4);
        x.raise(3);
        x.otherwise();
        int notReached = x.assign(0, one);
        x.end();
        x.otherwise();
        int reached = x.attempt(2);
        int again = x.raise(2);
        x.otherwise();
        int second = x.raise(2);
        x.end();
        x.end();
        CHECK.same("an error in a second block is not caught by its TRY", x.look(), 1);
        CHECK.same("a TRY of another kind", x.seen(notReached, 0), 0);
        CHECK.same("the outer TRY", x.seen(reached, 0), 8);
        CHECK.same("inside", x.seen(again, 0), 8);
        CHECK.yes("uncaught", x.alarm(2, second));
        CHECK.no("caught", x.alarm(2, again));
        CHECK.same("nothing is behind", x.seen(-1, 0), 0);
        CHECK.same("run agrees", x.run(20), 200 + second);
    }

    private static void errorsCarryTheStateBefore() {
        TypeForecast x = new TypeForecast();
        int one = x.leaf(0, 1);
        int two = x.leaf(0, 2);
        int input = x.leaf(4, 0);
        int quotient = x.apply(3, one, input);
        x.assign(0, one);
        x.attempt(3);
        x.assign(0, quotient);
        x.assign(0, two);
        x.assign(1, quotient);
        x.otherwise();
        int caught = x.assign(2, one);
        x.end();
        CHECK.same("look", x.look(), 0);
        numbers("before the first or the second quotient", x, caught, 0, 1, 2);
        CHECK.same("1 was not assigned in either", x.seen(caught, 1), 8);
        CHECK.same("behind: assigned or not", x.seen(-1, 1), 9);
        numbers("behind", x, -1, 1, -1, 1);
        numbers("behind", x, -1, 0, 1, 2);
        CHECK.same("assigned in the second block alone", x.seen(-1, 2), 9);
    }

    private static void errorsOfLoopConditions() {
        TypeForecast x = new TypeForecast();
        int zero = x.leaf(0, 0);
        int five = x.leaf(0, 5);
        int none = x.leaf(2, 0);
        int v = x.leaf(3, 0);
        int less = x.apply(4, v, five);
        int input = x.leaf(4, 0);
        x.assign(0, zero);
        x.attempt(1);
        int loop = x.loop(less);
        x.branch(input);
        x.assign(0, none);
        x.end();
        x.end();
        x.otherwise();
        int caught = x.assign(1, zero);
        x.end();
        CHECK.same("look", x.look(), 0);
        CHECK.same("the loop's joined state", x.seen(loop, 0), 5);
        CHECK.same("goes to the second block whole", x.seen(caught, 0), 5);
        CHECK.same("behind: no way but the error", x.seen(-1, 1), 1);
        CHECK.same("behind", x.seen(-1, 0), 5);
    }

    private static void loopsJoinAllWaysIn() {
        TypeForecast x = new TypeForecast();
        int input = x.leaf(4, 0);
        int none = x.leaf(2, 0);
        int text = x.leaf(1, 4);
        int one = x.leaf(0, 1);
        x.assign(0, one);
        int loop = x.loop(input);
        x.branch(input);
        x.assign(0, none);
        x.leave(true);
        x.end();
        x.branch(input);
        x.assign(0, text);
        x.leave(false);
        x.end();
        int unreached = x.leaf(0, 9);
        x.assign(1, unreached);
        x.end();
        CHECK.same("look", x.look(), 0);
        CHECK.same("before, continue, end of block", x.seen(loop, 0), 5);
        CHECK.same("unbound before, bound at the end", x.seen(loop, 1), 9);
        CHECK.same("behind also from the break", x.seen(-1, 0), 7);
    }

    private static void loopsThatDoNotEnd() {
        TypeForecast x = new TypeForecast();
        int one = x.leaf(0, 1);
        int v = x.leaf(3, 0);
        int more = x.apply(0, v, one);
        x.assign(0, one);
        int loop = x.loop(one);
        x.assign(0, more);
        x.end();
        int behind = x.assign(1, one);
        CHECK.same("look", x.look(), 0);
        numbers("it grows without end", x, loop, 0, 1, FREE);
        CHECK.same("nothing is behind it", x.seen(behind, 0), 0);
        CHECK.same("nor behind the program", x.seen(-1, 0), 0);
        CHECK.same("run", x.run(1000), -2);
        CHECK.same("place", x.place(), 2);
        CHECK.same("number", x.number(0), 500);
    }

    private static void nestedLoops() {
        TypeForecast x = new TypeForecast();
        int zero = x.leaf(0, 0);
        int one = x.leaf(0, 1);
        int three = x.leaf(0, 3);
        int a = x.leaf(3, 0);
        int b = x.leaf(3, 1);
        int moreA = x.apply(0, a, one);
        int moreB = x.apply(0, b, one);
        x.assign(0, zero);
        x.assign(1, zero);
        int outer = x.loop(x.apply(4, a, three));
        int inner = x.loop(x.apply(4, b, a));
        x.assign(1, moreB);
        x.end();
        x.assign(0, moreA);
        x.end();
        CHECK.same("look", x.look(), 0);
        numbers("outer a", x, outer, 0, 0, 3);
        numbers("outer b", x, outer, 1, 0, 2);
        numbers("inner b", x, inner, 1, 0, 2);
        numbers("behind a", x, -1, 0, 3, 3);
        numbers("behind b", x, -1, 1, 0, 2);
    }

    private static void emptyBlocks() {
        TypeForecast x = new TypeForecast();
        int input = x.leaf(4, 0);
        int v = x.leaf(3, 0);
        x.assign(0, input);
        x.branch(v);
        x.end();
        int loop = x.loop(v);
        x.end();
        x.attempt(0);
        x.otherwise();
        x.end();
        CHECK.same("look", x.look(), 0);
        numbers("the branch's two ends are joined", x, loop, 0, NONE, FREE);
        numbers("behind a loop that ends at 0 only", x, -1, 0, 0, 0);
    }

    private static void unreachedStatements() {
        TypeForecast x = new TypeForecast();
        int one = x.leaf(0, 1);
        int none = x.leaf(2, 0);
        int wrong = x.apply(1, none, none);
        x.branch(none);
        int first = x.raise(1);
        x.otherwise();
        x.loop(one);
        x.leave(false);
        int behindBreak = x.assign(0, wrong);
        x.end();
        x.loop(one);
        x.branch(none);
        x.leave(false);
        x.end();
        x.leave(true);
        int behindContinue = x.assign(0, wrong);
        x.end();
        x.end();
        int behindAll = x.assign(0, wrong);
        CHECK.same("no alarm where nothing is reached", x.look(), 0);
        CHECK.same("first block of a condition that isn't true", x.seen(first, 0), 0);
        CHECK.same("behind BREAK", x.seen(behindBreak, 0), 0);
        CHECK.same("behind CONTINUE", x.seen(behindContinue, 0), 0);
        CHECK.same("behind an endless loop", x.seen(behindAll, 0), 0);
    }

    /** Behind a branch or loop with this condition, with variable 0 bound in four ways. */
    private static TypeForecast bound(int numberLow, int numberHigh, int lengthLow, int lengthHigh) {
        TypeForecast x = new TypeForecast();
        int input = x.leaf(4, 0);
        x.branch(input);
        x.branch(input);
        x.assign(0, x.leaf(0, numberLow));
        x.otherwise();
        x.assign(0, x.leaf(0, numberHigh));
        x.end();
        x.otherwise();
        x.branch(input);
        x.assign(0, x.leaf(1, lengthLow));
        x.otherwise();
        x.assign(0, x.leaf(1, lengthHigh));
        x.end();
        x.branch(input);
        x.assign(0, x.leaf(2, 0));
        x.end();
        x.end();
        return x;
    }

    private static int[] branchOn(TypeForecast x, int e) {
        x.branch(e);
        int yes = x.assign(4, e);
        x.otherwise();
        int no = x.assign(4, e);
        x.end();
        x.look();
        return new int[] {yes, no};
    }

    private static void narrowingByVariable() {
        TypeForecast x = bound(0, 5, 0, 30);
        int[] at = branchOn(x, x.leaf(3, 0));
        CHECK.same("true values", x.seen(at[0], 0), 3);
        numbers("true numbers", x, at[0], 0, 1, 5);
        lengths("true texts", x, at[0], 0, 1, FREE);
        CHECK.same("other values", x.seen(at[1], 0), 7);
        numbers("other numbers", x, at[1], 0, 0, 0);
        lengths("other texts", x, at[1], 0, 0, 0);

        TypeForecast y = bound(-4, 0, 1, 2);
        at = branchOn(y, y.leaf(3, 0));
        numbers("true numbers below", y, at[0], 0, -4, -1);
        CHECK.same("no other texts", y.seen(at[1], 0), 5);

        TypeForecast z = bound(-4, 4, 0, 0);
        at = branchOn(z, z.leaf(3, 0));
        CHECK.same("no true texts", z.seen(at[0], 0), 1);
        numbers("0 within is no bound", z, at[0], 0, -4, 4);

        TypeForecast w = new TypeForecast();
        int input = w.leaf(4, 0);
        w.branch(input);
        w.assign(0, input);
        w.end();
        at = branchOn(w, w.leaf(3, 0));
        CHECK.same("it can't be unbound in the first block", w.seen(at[0], 0), 1);
        CHECK.same("nor in the second", w.seen(at[1], 0), 1);
        CHECK.same("behind", w.seen(-1, 0), 1);
    }

    private static void narrowingByLess() {
        TypeForecast x = bound(-20, 20, 0, 9);
        int v = x.leaf(3, 0);
        int[] at = branchOn(x, x.apply(4, v, x.leaf(0, -16)));
        CHECK.same("texts and none would be errors", x.seen(at[0], 0), 1);
        numbers("below -16", x, at[0], 0, NONE, -16);
        numbers("not below -16", x, at[1], 0, -16, FREE);

        TypeForecast y = bound(-16, 16, 3, 3);
        at = branchOn(y, y.apply(4, y.leaf(3, 0), y.leaf(0, -16)));
        CHECK.same("nothing is less", y.seen(at[0], 0), 0);
        numbers("all others", y, at[1], 0, -16, 16);

        TypeForecast z = bound(1, 2, 0, 20);
        at = branchOn(z, z.apply(4, z.leaf(3, 0), z.leaf(1, 4)));
        CHECK.same("texts alone", z.seen(at[0], 0), 2);
        lengths("shorter", z, at[0], 0, 0, 3);
        lengths("not shorter", z, at[1], 0, 4, FREE);

        TypeForecast w = bound(0, 20, 3, 3);
        int self = w.leaf(3, 0);
        at = branchOn(w, w.apply(4, self, self));
        numbers("less than itself, in pictures", w, at[0], 0, 0, FREE);
        CHECK.same("3 is not shorter than 3", w.seen(at[0], 0), 1);
        lengths("not shorter than itself", w, at[1], 0, 3, 3);
    }

    private static void narrowingByEqual() {
        TypeForecast x = bound(-3, 16, 2, 5);
        int[] at = branchOn(x, x.apply(5, x.leaf(3, 0), x.leaf(0, 16)));
        CHECK.same("equal to a number", x.seen(at[0], 0), 1);
        numbers("equal", x, at[0], 0, 16, 16);
        numbers("not equal", x, at[1], 0, -3, 15);
        lengths("texts are not equal to it", x, at[1], 0, 2, 5);

        TypeForecast y = bound(-3, 16, 2, 5);
        at = branchOn(y, y.apply(5, y.leaf(3, 0), y.leaf(1, 2)));
        CHECK.same("equal to a text", y.seen(at[0], 0), 2);
        lengths("equal", y, at[0], 0, 2, 2);
        lengths("not equal", y, at[1], 0, 3, 5);

        TypeForecast z = bound(-3, 16, 2, 5);
        at = branchOn(z, z.apply(5, z.leaf(3, 0), z.leaf(2, 0)));
        CHECK.same("equal to none", z.seen(at[0], 0), 4);
        CHECK.same("not equal to none", z.seen(at[1], 0), 3);

        TypeForecast w = bound(-30, 30, 2, 5);
        at = branchOn(w, w.apply(5, w.leaf(3, 0), w.leaf(0, 100)));
        numbers("100 stands for all from 16", w, at[0], 0, 16, FREE);
        numbers("so each may differ", w, at[1], 0, NONE, FREE);

        TypeForecast u = bound(16, 30, 2, 5);
        at = branchOn(u, u.apply(5, u.leaf(3, 0), u.leaf(0, 16)));
        numbers("above 16 fits from 16", u, at[1], 0, 16, FREE);
    }

    private static void narrowingLeavesOthersAlone() {
        TypeForecast x = bound(0, 9, 2, 5);
        int v = x.leaf(3, 0);
        int five = x.leaf(0, 5);
        int[] at = branchOn(x, x.apply(5, five, v));
        CHECK.same("the variable on the right", x.seen(at[0], 0), 7);
        numbers("the variable on the right", x, at[0], 0, 0, 9);

        TypeForecast y = bound(0, 9, 2, 5);
        v = y.leaf(3, 0);
        at = branchOn(y, y.apply(6, y.apply(5, v, y.leaf(0, 5)), 0));
        numbers("NOT of a condition", y, at[0], 0, 0, 9);
        numbers("NOT of a condition", y, at[1], 0, 0, 9);

        TypeForecast z = bound(0, 9, 2, 5);
        v = z.leaf(3, 0);
        int w = z.leaf(3, 1);
        z.assign(1, z.leaf(0, 4));
        at = branchOn(z, z.apply(4, w, v));
        CHECK.same("only the left variable", z.seen(at[0], 0), 7);
        numbers("the left variable", z, at[0], 1, 4, 4);
    }

    private static void variablesThatMayBeUnbound() {
        TypeForecast x = new TypeForecast();
        int input = x.leaf(4, 0);
        int v = x.leaf(3, 0);
        x.branch(input);
        x.assign(0, x.leaf(0, 7));
        x.end();
        int copy = x.assign(1, v);
        x.assign(2, x.apply(0, v, v));
        CHECK.same("look", x.look(), 2);
        CHECK.yes("it may be unbound", x.alarm(2, copy));
        CHECK.same("it stays so", x.seen(-1, 0), 9);
        CHECK.same("what holds its value is not", x.seen(-1, 1), 1);
        CHECK.same("nor what was worked out of it", x.seen(-1, 2), 1);
        numbers("its value", x, -1, 1, 7, 7);
        x.attempt(2);
        x.assign(1, x.leaf(3, 4));
        int unreached = x.assign(3, v);
        x.otherwise();
        int caught = x.assign(3, input);
        x.end();
        CHECK.same("look", x.look(), 2);
        CHECK.same("behind a variable that is only unbound", x.seen(unreached, 0), 0);
        CHECK.same("its error", x.seen(caught, 4), 8);
    }

    private static void inputsAreAllNumbers() {
        TypeForecast x = new TypeForecast();
        x.feed(3);
        x.assign(0, x.leaf(4, 0));
        x.look();
        CHECK.same("a number", x.seen(-1, 0), 1);
        numbers("any number, whatever was fed", x, -1, 0, NONE, FREE);
    }
}
