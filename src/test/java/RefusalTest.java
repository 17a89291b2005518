import java.util.ArrayList;
import java.util.List;

/**
 * "A call that answers false, or that is said to be refused, changes nothing." Each refused call is
 * tried in each of several scenes on one of two objects that get the same calls otherwise; whatever
 * can be asked of the two must be the same, at once and after more calls.
 */
public final class RefusalTest {
    private static final Check CHECK = new Check();
    private static final int BIG = Bench.BIG;
    /** No object may be asked more. */
    private static final int MOST_CALLS = 512;

    private interface Call {
        int on(TypeForecast x);
    }

    private record Refused(int promise, String name, int due, Call call) { }

    private interface Play {
        void on(Actor a);
    }

    /**
     * Calls that come before the refused one: they leave so many statements open, and if it is
     * growing, one more can be added that uses expression 0.
     */
    private record Scene(String name, int open, boolean growing, Play play) { }

    /** Makes calls and keeps the answers. */
    private static final class Actor {
        private final TypeForecast x = new TypeForecast();
        private final List<Integer> answers = new ArrayList<>();

        void say(int answer) {
            answers.add(answer);
        }

        void say(boolean answer) {
            answers.add(answer ? 1 : 0);
        }
    }

    private static final Scene NOTHING =
            new Scene("new object", 0, false, RefusalTest::nothing);
    private static final Scene CLOSED =
            new Scene("nothing open", 0, true, RefusalTest::closed);
    private static final Scene FIRST_BLOCK =
            new Scene("first block open", 1, true, RefusalTest::firstBlock);
    private static final Scene EMPTY_FIRST_BLOCK =
            new Scene("empty first block open", 1, true, RefusalTest::emptyFirstBlock);
    private static final Scene SECOND_BLOCK =
            new Scene("second block open", 1, true, RefusalTest::secondBlock);
    private static final Scene IN_LOOP =
            new Scene("loop open", 1, true, RefusalTest::inLoop);
    private static final Scene LOOP_IN_FIRST_BLOCK =
            new Scene("loop in a first block open", 2, true, RefusalTest::loopInFirstBlock);
    private static final Scene FIVE_OPEN =
            new Scene("five open", 5, true, RefusalTest::fiveOpen);
    private static final Scene FULL =
            new Scene("24 statements", 0, false, RefusalTest::fullClosed);
    private static final Scene FULL_IN_LOOP =
            new Scene("24 statements, loop open", 1, false, RefusalTest::fullInLoop);
    private static final Scene SIXTY_EXPRESSIONS =
            new Scene("60 expressions", 0, true, RefusalTest::sixtyExpressions);
    private static final Scene EIGHT_INPUTS =
            new Scene("eight inputs", 0, true, RefusalTest::eightInputs);
    private static final Scene HEAVY =
            new Scene("heavy expressions", 0, true, RefusalTest::heavyExpressions);

    public static void main(String[] args) {
        inEachScene();
        whileNoLoopIsOpen();
        whileNothingIsOpen();
        whileSomethingIsOpen();
        whileNoFirstBlockIsOpen();
        whileFiveAreOpen();
        whileThereAreTwentyFourStatements();
        whileThereAreSixtyExpressions();
        whileThereAreEightInputs();
        whileItWouldBeTooHeavy();
        whileThereAreNoExpressions();
        whileThereAreNoAlarms();
        CHECK.finish();
    }

    private static int of(boolean answer) {
        return answer ? 1 : 0;
    }

    // ---- the scenes ----

    private static void nothing(Actor a) {
        a.say(a.x.place());
    }

    /** A program of five statements, looked through and run, with an alarm and an error. */
    private static void closed(Actor a) {
        a.say(a.x.leaf(0, 3));
        a.say(a.x.leaf(3, 0));
        a.say(a.x.leaf(4, 0));
        a.say(a.x.leaf(1, 2));
        a.say(a.x.apply(4, 1, 0));
        a.say(a.x.apply(3, 0, 2));
        a.say(a.x.feed(2));
        a.say(a.x.feed(0));
        a.say(a.x.assign(0, 2));
        a.say(a.x.branch(4));
        a.say(a.x.assign(1, 3));
        a.say(a.x.end());
        a.say(a.x.assign(2, 5));
        a.say(a.x.assign(3, 0));
        a.say(a.x.look());
        a.say(a.x.run(100));
    }

    private static void firstBlock(Actor a) {
        closed(a);
        a.say(a.x.branch(1));
        a.say(a.x.assign(4, 0));
    }

    private static void emptyFirstBlock(Actor a) {
        closed(a);
        a.say(a.x.attempt(2));
    }

    private static void secondBlock(Actor a) {
        closed(a);
        a.say(a.x.attempt(1));
        a.say(a.x.assign(1, 5));
        a.say(a.x.otherwise());
    }

    private static void inLoop(Actor a) {
        closed(a);
        a.say(a.x.loop(4));
        a.say(a.x.assign(0, 0));
    }

    private static void loopInFirstBlock(Actor a) {
        closed(a);
        a.say(a.x.branch(4));
        a.say(a.x.loop(1));
    }

    private static void fiveOpen(Actor a) {
        closed(a);
        a.say(a.x.loop(4));
        a.say(a.x.attempt(0));
        a.say(a.x.branch(1));
        a.say(a.x.otherwise());
        a.say(a.x.loop(2));
        a.say(a.x.attempt(3));
    }

    private static void fullClosed(Actor a) {
        closed(a);
        for (int s = 5; s < 24; s++) {
            a.say(a.x.assign(s % 5, 1));
        }
    }

    private static void fullInLoop(Actor a) {
        closed(a);
        a.say(a.x.loop(4));
        for (int s = 6; s < 24; s++) {
            a.say(a.x.assign(s % 5, 1));
        }
    }

    private static void sixtyExpressions(Actor a) {
        closed(a);
        for (int e = 6; e < 60; e++) {
            a.say(a.x.leaf(0, e));
        }
    }

    private static void eightInputs(Actor a) {
        a.say(a.x.leaf(4, 0));
        for (int i = 0; i < 8; i++) {
            a.say(a.x.feed(10 + i));
            a.say(a.x.assign(i % 5, 0));
        }
    }

    private static void heavyExpressions(Actor a) {
        closed(a);
        a.say(a.x.apply(0, 0, 0));
        a.say(a.x.apply(0, 6, 6));
        a.say(a.x.apply(0, 7, 7));
        a.say(a.x.apply(6, 7, 7));
    }

    // ---- what shows a change ----

    /** Shows what the latest looking through and the latest run left. */
    private static void askAll(Actor a) {
        a.say(a.x.place());
        for (int v = 0; v < 5; v++) {
            a.say(a.x.type(v));
            a.say(a.x.number(v));
        }
        for (int s = -1; s < 24; s++) {
            for (int v = 0; v < 5; v++) {
                a.say(a.x.seen(s, v));
            }
            for (int which = 0; which < 4; which++) {
                a.say(a.x.bound(s, 0, which));
            }
            for (int kind = 1; kind <= 4; kind++) {
                a.say(a.x.alarm(kind, s));
            }
        }
    }

    /** Shows what stands in the program and in the inputs, and makes no refused call itself. */
    private static void finish(Actor a, Scene scene) {
        if (scene.growing) {
            a.say(a.x.assign(3, 0));
        }
        for (int i = 0; i < scene.open; i++) {
            a.say(a.x.end());
        }
        a.say(a.x.look());
        a.say(a.x.run(5));
        for (int v = 0; v < 5; v++) {
            a.say(a.x.number(v));
        }
        a.say(a.x.run(60));
    }

    /** Shows how many expressions, statements, inputs and open blocks there are. */
    private static void goOn(Actor a) {
        a.say(a.x.leaf(2, 0));
        a.say(a.x.apply(5, 0, 0));
        a.say(a.x.leave(true));
        a.say(a.x.assign(3, 0));
        a.say(a.x.otherwise());
        a.say(a.x.assign(2, 0));
        for (int i = 0; i < 6; i++) {
            a.say(a.x.end());
        }
        a.say(a.x.attempt(0));
        a.say(a.x.end());
        for (int i = 0; i < 8; i++) {
            a.say(a.x.feed(50 + i));
        }
        a.say(a.x.look());
        a.say(a.x.run(60));
    }

    private static void compare(String what, Actor tried, Actor plain, int from) {
        CHECK.yes(what + ": at most " + MOST_CALLS + " calls", tried.answers.size() < MOST_CALLS);
        CHECK.same(what + ": answers", tried.answers.size(), plain.answers.size());
        int differ = -1;
        for (int i = from; i < plain.answers.size(); i++) {
            if (differ < 0 && !tried.answers.get(i).equals(plain.answers.get(i))) {
                differ = i - from;
            }
        }
        CHECK.same(what + ": first answer that it changed", differ, -1);
    }

    private static final String[] WHEN = {", at once", ", when it is finished", ", later"};

    private static void goOn(Actor a, Scene scene, int when) {
        if (when == 1) {
            finish(a, scene);
        } else if (when == 2) {
            goOn(a);
        }
        askAll(a);
    }

    private static void tryIn(Scene scene, Refused refused) {
        String what = "promise " + refused.promise + ", " + refused.name + ", " + scene.name;
        for (int when = 0; when < WHEN.length; when++) {
            Actor plain = new Actor();
            Actor tried = new Actor();
            scene.play.on(plain);
            scene.play.on(tried);
            int from = plain.answers.size();
            CHECK.same(what, refused.call.on(tried.x), refused.due);
            goOn(plain, scene, when);
            goOn(tried, scene, when);
            compare(what + WHEN[when], tried, plain, from);
        }
    }

    private static void sentence() {
        CHECK.sentence("terms of all promises",
                "A call that answers false, or that is said to be refused, changes nothing.");
    }

    private static Refused refused(int promise, String name, int due, Call call) {
        return new Refused(promise, name, due, call);
    }

    /** Calls that are refused, or have nothing to tell, in every state of an object. */
    private static List<Refused> always() {
        List<Refused> all = new ArrayList<>();
        int[][] leaves = {{-1, 0}, {5, 0}, {0, BIG + 1}, {0, -BIG - 1}, {1, -1}, {1, BIG + 1},
            {3, -1}, {3, 5}};
        for (int[] c : leaves) {
            all.add(refused(2, "leaf(" + c[0] + ", " + c[1] + ")", -1, x -> x.leaf(c[0], c[1])));
        }
        int[][] operations = {{-1, 0, 0}, {8, 0, 0}, {0, -1, 0}, {0, 0, -1}, {0, 60, 0}, {0, 0, 60},
            {6, -1, 0}, {7, 60, 0}};
        for (int[] c : operations) {
            all.add(refused(3, "apply(" + c[0] + ", " + c[1] + ", " + c[2] + ")", -1,
                    x -> x.apply(c[0], c[1], c[2])));
        }
        int[][] assigns = {{-1, 0}, {5, 0}, {0, -1}, {0, 60}};
        for (int[] c : assigns) {
            all.add(refused(4, "assign(" + c[0] + ", " + c[1] + ")", -1,
                    x -> x.assign(c[0], c[1])));
        }
        for (int kind : new int[] {0, 5}) {
            all.add(refused(5, "raise(" + kind + ")", -1, x -> x.raise(kind)));
        }
        for (int e : new int[] {-1, 60}) {
            all.add(refused(7, "branch(" + e + ")", -1, x -> x.branch(e)));
            all.add(refused(8, "loop(" + e + ")", -1, x -> x.loop(e)));
        }
        for (int kind : new int[] {-1, 5}) {
            all.add(refused(9, "attempt(" + kind + ")", -1, x -> x.attempt(kind)));
        }
        for (int n : new int[] {BIG + 1, -BIG - 1}) {
            all.add(refused(12, "feed(" + n + ")", 0, x -> of(x.feed(n))));
        }
        for (int limit : new int[] {-1, 1001}) {
            all.add(refused(17, "run(" + limit + ")", -1, x -> x.run(limit)));
        }
        addQuestions(all);
        return all;
    }

    private static void addQuestions(List<Refused> all) {
        int[][] alarms = {{0, 0}, {5, 0}, {1, -1}, {1, 24}};
        for (int[] c : alarms) {
            all.add(refused(14, "alarm(" + c[0] + ", " + c[1] + ")", 0,
                    x -> of(x.alarm(c[0], c[1]))));
        }
        int[][] places = {{-2, 0}, {24, 0}, {-1, -1}, {-1, 5}};
        for (int[] c : places) {
            all.add(refused(15, "seen(" + c[0] + ", " + c[1] + ")", -1, x -> x.seen(c[0], c[1])));
        }
        int[][] bounds = {{-2, 0, 0}, {-1, 5, 0}, {-1, 0, -1}, {-1, 0, 4}};
        for (int[] c : bounds) {
            all.add(refused(16, "bound(" + c[0] + ", " + c[1] + ", " + c[2] + ")", 99,
                    x -> x.bound(c[0], c[1], c[2])));
        }
        for (int v : new int[] {-1, 5}) {
            all.add(refused(19, "type(" + v + ")", -1, x -> x.type(v)));
            all.add(refused(20, "number(" + v + ")", 0, x -> x.number(v)));
        }
    }

    private static void inEachScene() {
        sentence();
        for (Refused r : always()) {
            tryIn(NOTHING, r);
            tryIn(CLOSED, r);
            tryIn(FIRST_BLOCK, r);
            tryIn(SECOND_BLOCK, r);
            tryIn(IN_LOOP, r);
            tryIn(FIVE_OPEN, r);
        }
    }

    private static void whileNoLoopIsOpen() {
        sentence();
        for (boolean again : new boolean[] {false, true}) {
            Refused r = refused(6, "leave(" + again + ")", -1, x -> x.leave(again));
            tryIn(NOTHING, r);
            tryIn(CLOSED, r);
            tryIn(FIRST_BLOCK, r);
            tryIn(SECOND_BLOCK, r);
        }
    }

    private static void whileNothingIsOpen() {
        sentence();
        Refused end = refused(11, "end()", 0, x -> of(x.end()));
        tryIn(NOTHING, end);
        tryIn(CLOSED, end);
        tryIn(FULL, end);
    }

    private static void whileSomethingIsOpen() {
        sentence();
        Refused[] both = {refused(13, "look()", -1, x -> x.look()),
            refused(17, "run(9)", -1, x -> x.run(9)), refused(17, "run(0)", -1, x -> x.run(0))};
        for (Refused r : both) {
            tryIn(FIRST_BLOCK, r);
            tryIn(EMPTY_FIRST_BLOCK, r);
            tryIn(SECOND_BLOCK, r);
            tryIn(IN_LOOP, r);
            tryIn(FIVE_OPEN, r);
            tryIn(FULL_IN_LOOP, r);
        }
    }

    private static void whileNoFirstBlockIsOpen() {
        sentence();
        Refused otherwise = refused(10, "otherwise()", 0, x -> of(x.otherwise()));
        tryIn(NOTHING, otherwise);
        tryIn(CLOSED, otherwise);
        tryIn(SECOND_BLOCK, otherwise);
        tryIn(IN_LOOP, otherwise);
        tryIn(LOOP_IN_FIRST_BLOCK, otherwise);
    }

    private static void whileFiveAreOpen() {
        sentence();
        tryIn(FIVE_OPEN, refused(7, "branch(0)", -1, x -> x.branch(0)));
        tryIn(FIVE_OPEN, refused(8, "loop(0)", -1, x -> x.loop(0)));
        for (int kind = 0; kind <= 4; kind++) {
            int caught = kind;
            tryIn(FIVE_OPEN,
                    refused(9, "attempt(" + kind + ")", -1, x -> x.attempt(caught)));
        }
    }

    private static void whileThereAreTwentyFourStatements() {
        sentence();
        Refused[] adding = {refused(4, "assign(0, 0)", -1, x -> x.assign(0, 0)),
            refused(5, "raise(4)", -1, x -> x.raise(4)),
            refused(6, "leave(false)", -1, x -> x.leave(false)),
            refused(6, "leave(true)", -1, x -> x.leave(true)),
            refused(7, "branch(0)", -1, x -> x.branch(0)),
            refused(8, "loop(0)", -1, x -> x.loop(0)),
            refused(9, "attempt(0)", -1, x -> x.attempt(0))};
        for (Refused r : adding) {
            tryIn(FULL, r);
            tryIn(FULL_IN_LOOP, r);
        }
    }

    private static void whileThereAreSixtyExpressions() {
        sentence();
        for (int kind = 0; kind < 5; kind++) {
            int k = kind;
            tryIn(SIXTY_EXPRESSIONS,
                    refused(2, "leaf(" + k + ", 1)", -1, x -> x.leaf(k, 1)));
        }
        for (int operation = 0; operation < 8; operation++) {
            int o = operation;
            tryIn(SIXTY_EXPRESSIONS,
                    refused(3, "apply(" + o + ", 0, 0)", -1, x -> x.apply(o, 0, 0)));
        }
    }

    private static void whileThereAreEightInputs() {
        sentence();
        for (int n : new int[] {0, 1, BIG, -BIG}) {
            tryIn(EIGHT_INPUTS,
                    refused(12, "feed(" + n + ")", 0, x -> of(x.feed(n))));
        }
    }

    private static void whileItWouldBeTooHeavy() {
        sentence();
        int[][] operations = {{0, 8, 8}, {6, 8, 0}, {7, 8, 0}, {5, 0, 8}, {5, 8, 0}, {0, 9, 7},
            {1, 7, 9}, {2, 9, 9}};
        for (int[] c : operations) {
            tryIn(HEAVY,
                    refused(3, "apply(" + c[0] + ", " + c[1] + ", " + c[2] + ")", -1,
                            x -> x.apply(c[0], c[1], c[2])));
        }
    }

    private static void whileThereAreNoExpressions() {
        sentence();
        Refused[] using = {refused(3, "apply(0, 0, 0)", -1, x -> x.apply(0, 0, 0)),
            refused(3, "apply(6, 0, 0)", -1, x -> x.apply(6, 0, 0)),
            refused(4, "assign(0, 0)", -1, x -> x.assign(0, 0)),
            refused(7, "branch(0)", -1, x -> x.branch(0)),
            refused(8, "loop(0)", -1, x -> x.loop(0))};
        for (Refused r : using) {
            tryIn(NOTHING, r);
        }
    }

    private static void whileThereAreNoAlarms() {
        sentence();
        for (int kind = 1; kind <= 4; kind++) {
            int k = kind;
            tryIn(NOTHING,
                    refused(14, "alarm(" + k + ", 0)", 0, x -> of(x.alarm(k, 0))));
            tryIn(CLOSED,
                    refused(14, "alarm(" + k + ", 0)", 0, x -> of(x.alarm(k, 0))));
        }
    }
}
