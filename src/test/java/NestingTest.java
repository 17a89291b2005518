import java.util.ArrayList;
import java.util.List;

/**
 * Errors, BREAK and CONTINUE out of blocks that lie in blocks of TRY, BRANCH and LOOP: every way to
 * nest one to five blocks, with each way to leave the innermost one. Which statements are begun,
 * one after the other, and which are reached is foretold here by going from block to block
 * outwards, as the terms say it.
 */
public final class NestingTest {
    private static final Check CHECK = new Check();
    private static final int MOST_OPEN = 5;
    /** What the statement behind each level gives to the variable of this level. */
    private static final int MARK = 7;

    /** In which block of which statement the next level lies. */
    private enum Block {
        BRANCH_FIRST, BRANCH_SECOND, LOOP, TRY_OF_ALL, TRY_OF_OWN, TRY_OF_OTHER, TRY_SECOND
    }

    private enum Leaving { END, BREAK, CONTINUE, RAISE }

    private final TypeForecast x = new TypeForecast();
    private final Block[] chain;
    private final Leaving leaving;
    /** Whether blocks end where the blocks in them end, but for the outermost one. */
    private final boolean bare;
    private final String name;
    /** The statement of each level, the one in its other block, and the one behind it; or -1. */
    private final int[] statement = new int[MOST_OPEN];
    private final int[] other = new int[MOST_OPEN];
    private final int[] behind = new int[MOST_OPEN];
    private int jump = -1;
    /** The level behind whose block the way goes on; -1 behind no level. */
    private int target;

    private NestingTest(Block[] chain, Leaving leaving, boolean bare) {
        this.chain = chain;
        this.leaving = leaving;
        this.bare = bare;
        name = List.of(chain) + " " + leaving + (bare ? " bare" : "");
    }

    public static void main(String[] args) {
        for (int levels = 1; levels <= MOST_OPEN; levels++) {
            eachChain(new Block[levels], 0);
        }
        CHECK.finish();
    }

    private static void eachChain(Block[] chain, int level) {
        if (level == chain.length) {
            for (Leaving leaving : Leaving.values()) {
                new NestingTest(chain, leaving, false).goThrough();
                new NestingTest(chain, leaving, true).goThrough();
            }
            return;
        }
        for (Block block : Block.values()) {
            chain[level] = block;
            eachChain(chain, level + 1);
        }
    }

    private void goThrough() {
        putTogether();
        boolean inLoop = leaving == Leaving.BREAK || leaving == Leaving.CONTINUE;
        if (inLoop && innermost(Block.LOOP) < 0) {
            CHECK.same(name + ": no loop is open", jump, -1);
            return;
        }
        target = switch (leaving) {
            case END -> chain.length - 1;
            case RAISE -> Math.max(innermost(Block.TRY_OF_ALL), innermost(Block.TRY_OF_OWN));
            default -> innermost(Block.LOOP);
        };
        compareRuns(foretoldSteps());
        compareLook();
    }

    private int innermost(Block block) {
        int level = chain.length - 1;
        while (level >= 0 && chain[level] != block) {
            level--;
        }
        return level;
    }

    // ---- the program ----

    private void putTogether() {
        int no = x.leaf(0, 0);
        int yes = x.leaf(0, 1);
        int input = x.leaf(4, 0);
        int mark = x.leaf(0, MARK);
        for (int level = 0; level < chain.length; level++) {
            open(level, no, yes, input);
        }
        jump = switch (leaving) {
            case END -> -1;
            case RAISE -> x.raise(4);
            default -> x.leave(leaving == Leaving.CONTINUE);
        };
        for (int level = chain.length - 1; level >= 0; level--) {
            close(level, mark);
        }
    }

    private void open(int level, int no, int yes, int input) {
        other[level] = -1;
        switch (chain[level]) {
            case BRANCH_FIRST:
                statement[level] = x.branch(yes);
                break;
            case BRANCH_SECOND:
                statement[level] = x.branch(no);
                other[level] = x.raise(1);
                x.otherwise();
                break;
            case LOOP:
                statement[level] = x.loop(input);
                x.feed(1);
                break;
            case TRY_SECOND:
                statement[level] = x.attempt(level % 2 == 0 ? 0 : 3);
                other[level] = x.raise(3);
                x.otherwise();
                break;
            default:
                statement[level] = x.attempt(caught(chain[level]));
        }
    }

    private static int caught(Block block) {
        return block == Block.TRY_OF_ALL ? 0 : block == Block.TRY_OF_OWN ? 4 : 3;
    }

    private boolean isGuarded(int level) {
        return chain[level] == Block.TRY_OF_ALL || chain[level] == Block.TRY_OF_OWN
                || chain[level] == Block.TRY_OF_OTHER;
    }

    private void close(int level, int mark) {
        if (chain[level] != Block.LOOP && other[level] < 0) {
            x.otherwise();
            other[level] = x.assign(level, mark);
        }
        x.end();
        behind[level] = isMarked(level) ? x.assign(level, mark) : -1;
    }

    private boolean isMarked(int level) {
        return !bare || level == 0;
    }

    // ---- the run ----

    /** Each loop is done once: then the inputs are used up, and its condition is 0. */
    private List<Integer> foretoldSteps() {
        List<Integer> steps = new ArrayList<>();
        for (int level = 0; level < chain.length; level++) {
            steps.add(statement[level]);
            if (chain[level] == Block.TRY_SECOND) {
                steps.add(other[level]);
            }
        }
        if (jump >= 0) {
            steps.add(jump);
        }
        for (int level = target; level >= 0; level--) {
            boolean broken = level == target && leaving == Leaving.BREAK;
            if (isCaughtAt(level)) {
                steps.add(other[level]);
            } else if (chain[level] == Block.LOOP && !broken) {
                steps.add(statement[level]);
            }
            if (isMarked(level)) {
                steps.add(behind[level]);
            }
        }
        return steps;
    }

    private void compareRuns(List<Integer> steps) {
        for (int limit = 0; limit < steps.size(); limit++) {
            CHECK.same(name + ": run(" + limit + ")", x.run(limit), -2);
            CHECK.same(name + ": step " + limit, x.place(), steps.get(limit));
        }
        CHECK.same(name + ": run", x.run(steps.size()), target < 0 ? 400 + jump : 0);
        CHECK.same(name + ": place", x.place(), target < 0 ? jump : -1);
        for (int level = 0; level < MOST_OPEN; level++) {
            boolean passed = level <= target && (isMarked(level) || isCaughtAt(level));
            CHECK.same(name + ": type(" + level + ")", x.type(level), passed ? 1 : 8);
            CHECK.same(name + ": number(" + level + ")", x.number(level), passed ? MARK : 0);
        }
    }

    // ---- the looking through ----

    private void compareLook() {
        CHECK.same(name + ": look", x.look(), target < 0 ? 1 : 0);
        boolean endReached = leaving == Leaving.END;
        for (int level = chain.length - 1; level >= 0; level--) {
            boolean caughtHere = isCaughtAt(level);
            boolean behindReached = endReached || caughtHere || chain[level] == Block.LOOP;
            boolean marked = isMarked(level) ? behindReached : caughtHere;
            int before = marked && liesInLoop(level) ? 9 : 8;
            compareSeen(statement[level], level, before);
            if (isGuarded(level)) {
                compareSeen(other[level], level, caughtHere ? before : 0);
            } else if (chain[level] != Block.LOOP && other[level] >= 0) {
                compareSeen(other[level], level, chain[level] == Block.TRY_SECOND ? before : 0);
            }
            int withSecond = caughtHere ? endReached ? 9 : 1 : before;
            if (isMarked(level)) {
                compareSeen(behind[level], level, behindReached ? withSecond : 0);
            }
            endReached = behindReached;
        }
        CHECK.same(name + ": behind all", x.seen(-1, 0), endReached ? 1 : 0);
        if (jump >= 0) {
            CHECK.yes(name + ": the jump is reached", x.seen(jump, 0) > 0);
            CHECK.same(name + ": alarm", x.alarm(4, jump) ? 1 : 0, target < 0 ? 1 : 0);
        }
    }

    private boolean isCaughtAt(int level) {
        return leaving == Leaving.RAISE && level == target;
    }

    /** Only a loop around it brings a level's mark back to its beginning. */
    private boolean liesInLoop(int level) {
        boolean found = false;
        for (int around = 0; around < level; around++) {
            found |= chain[around] == Block.LOOP;
        }
        return found;
    }

    private void compareSeen(int s, int level, int due) {
        CHECK.same(name + ": statement " + s, x.seen(s, level), due);
        int bound = (due & 1) == 0 ? 99 : MARK;
        CHECK.same(name + ": low bound at " + s, x.bound(s, level, 0), bound);
        CHECK.same(name + ": high bound at " + s, x.bound(s, level, 1), bound);
    }
}
