/** FOREIGN calls (==== 3. of the document) as promises 6, 7, 14, 15, 24 and 26 tell of them. */
public final class ForeignTest {
    private static final Due DUE = new Due();

    public static void main(String[] args) {
        overAtOnce();
        calledBack();
        calledBackCovered();
        calledBackWithAPointerFirst();
        notToldIsCalledBack();
        sideUsedMoreThanOnce();
        sideTooSmall();
        waitingForASide();
        firstSideThatNobodyHas();
        outGivesTheSideBack();
        quietAndJoinWhileWaiting();
        DUE.end();
    }

    private static void overAtOnce() {
        GrowingStacks x = new GrowingStacks();
        Programs.foreign(x, 0, 1, 40, -1);
        x.start(0, 0, 5, 0);
        DUE.is("step(0, 1)", x.step(0, 1), 1);
        DUE.is("three times itself and 1", x.slot(0, 0, 0, 1), 16);
        DUE.is("SIDE", x.task(0, 8), -1);
        DUE.is("WORDS used there", x.task(0, 9), 0);
        DUE.is("count(9)", x.count(9), 1);
        DUE.is("look(9)", x.look(9), 0);
        x.step(0, 1);
        DUE.is("RESULT", x.task(0, 2), 16);
    }

    /** FUNCTION 1 doubles its number; it is ENDLESS, so that nothing is COVERED. */
    private static void calledBack() {
        GrowingStacks x = new GrowingStacks();
        x.function(0, 2, 0);
        x.line(0, Programs.QUIET, 0, 0, 0);
        x.line(0, Programs.FOREIGN, 20, 1, 0);
        x.line(0, Programs.RETURN, 0, 0, 0);
        x.function(1, 1, 0);
        x.line(1, Programs.ADD, 0, 0, 0);
        x.line(1, Programs.RETURN, 0, 0, 0);
        x.line(1, Programs.CALL, 1, 0, 0);
        x.start(0, 0, 21, 1);
        x.step(0, 2);
        DUE.is("SIDE", x.task(0, 8), 0);
        DUE.is("WORDS used there", x.task(0, 9), 20);
        DUE.is("look(9)", x.look(9), 1);
        DUE.is("FRAMES", x.task(0, 4), 2);
        DUE.is("called back", x.frame(0, 1, 5), 1);
        DUE.is("the first one was not", x.frame(0, 0, 5), 0);
        DUE.is("BACK", x.frame(0, 1, 7), 2 + 2048);
        DUE.is("LINE behind it", x.frame(0, 0, 4), 2);
        DUE.is("called with", x.slot(0, 1, 0, 1), 21);
        DUE.is("CHECKED", x.task(0, 12), 2);
        DUE.is("not over", x.count(9), 0);
        x.step(0, 2);
        DUE.is("what it RETURNED", x.slot(0, 0, 0, 1), 42);
        DUE.is("SIDE", x.task(0, 8), -1);
        DUE.is("WORDS used there", x.task(0, 9), 0);
        DUE.is("over", x.count(9), 1);
        x.step(0, 1);
        DUE.is("RESULT", x.task(0, 2), 42);
    }

    private static void calledBackCovered() {
        GrowingStacks x = new GrowingStacks();
        Programs.foreign(x, 0, 1, 5, 1);
        Programs.same(x, 1, 1);
        DUE.is("deep(0)", x.deep(0), 6);
        x.start(0, 0, 3, 0);
        x.step(0, 1);
        DUE.is("BACK", x.frame(0, 1, 7), 1 + 1024 + 2048);
        DUE.is("COVERED", x.frame(0, 1, 3), 1);
        DUE.is("CHECKED", x.task(0, 12), 1);
        DUE.is("count(11)", x.count(11), 1);
    }

    private static void calledBackWithAPointerFirst() {
        GrowingStacks x = new GrowingStacks();
        Programs.foreign(x, 0, 1, 5, 1);
        x.function(1, 2, 1);
        x.line(1, Programs.LOAD, 1, 0, 0);
        x.line(1, Programs.RETURN, 1, 0, 0);
        x.start(0, 0, 3, 0);
        x.step(0, 1);
        DUE.is("NOWHERE", x.slot(0, 1, 0, 1), -1);
        x.step(0, 9);
        DUE.is("RESULT", x.task(0, 2), 0);
    }

    private static void notToldIsCalledBack() {
        GrowingStacks x = new GrowingStacks();
        Programs.foreign(x, 0, 1, 5, 7);
        x.start(0, 0, -2, 0);
        x.step(0, 1);
        DUE.is("three times itself and 1", x.slot(0, 0, 0, 1), -5);
        DUE.is("FRAMES", x.task(0, 4), 1);
        DUE.is("count(9)", x.count(9), 1);
    }

    /** A FOREIGN call of 40 WORDS calls back one that makes another one; SIDE is 60 at first. */
    private static GrowingStacks twoForeign(int words) {
        GrowingStacks x = new GrowingStacks();
        Programs.foreign(x, 0, 1, 40, 1);
        Programs.foreign(x, 1, 1, words, 2);
        Programs.same(x, 2, 1);
        x.start(0, 0, 8, 0);
        return x;
    }

    private static void sideUsedMoreThanOnce() {
        GrowingStacks x = twoForeign(20);
        DUE.is("step(0, 2)", x.step(0, 2), 2);
        DUE.is("WORDS used on its SIDE", x.task(0, 9), 60);
        x.step(0, 1);
        DUE.is("WORDS used on its SIDE", x.task(0, 9), 40);
        DUE.is("SIDE", x.task(0, 8), 0);
        DUE.is("count(9)", x.count(9), 1);
        x.step(0, 1);
        DUE.is("SIDE", x.task(0, 8), -1);
        DUE.is("count(9)", x.count(9), 2);
        x.step(0, 1);
        DUE.is("RESULT", x.task(0, 2), 8);
        GrowingStacks y = twoForeign(21);
        DUE.is("step(0, 9)", y.step(0, 9), 2);
        DUE.is("OUT", y.task(0, 0), 4);
        DUE.is("count(9)", y.count(9), 0);
        DUE.is("endless", y.endless(0, 8, 0), 8);
        DUE.is("alone: OUT", y.alone(0, 8, 0, 0), 4);
        DUE.is("alone: STEPS", y.alone(0, 8, 0, 1), 2);
    }

    private static void sideTooSmall() {
        for (int words = 10; words <= 11; words++) {
            GrowingStacks x = new GrowingStacks();
            x.set(5, 10);
            Programs.foreign(x, 0, 1, words, -1);
            x.start(0, 0, 1, 0);
            x.step(0, 1);
            DUE.is(words + " WORDS of 10", x.task(0, 0), words == 10 ? 1 : 4);
            DUE.is("look(9)", x.look(9), 0);
            DUE.is("count(1)", x.count(1), words - 10);
        }
    }

    private static void waitingForASide() {
        GrowingStacks x = new GrowingStacks();
        Programs.foreign(x, 0, 1, 5, 1);
        Programs.through(x, 1, 1, 2);
        Programs.same(x, 2, 1);
        x.start(3, 0, 7, 0);
        x.start(1, 0, 8, 1);
        x.step(3, 1);
        DUE.is("step(1, 3)", x.step(1, 3), 3);
        DUE.is("WAITING", x.task(1, 0), 2);
        DUE.is("LINE", x.task(1, 11), 0);
        DUE.is("STEPS", x.task(1, 3), 3);
        DUE.is("SIDE", x.task(1, 8), -1);
        DUE.is("FRAMES", x.task(1, 4), 1);
        DUE.is("count(10)", x.count(10), 3);
        DUE.is("look(10)", x.look(10), 1);
        DUE.is("look(11)", x.look(11), 1);
        DUE.no("WAITING: start(1, 0, 0, 0)", x.start(1, 0, 0, 0));
        DUE.is("land(1, 200, 0)", x.land(1, 200, 0), 2);
        DUE.is("round(3)", x.round(3), 6);
        DUE.is("TASK 1 was before TASK 3", x.task(1, 0), 2);
        DUE.is("SIDE", x.task(3, 8), -1);
        DUE.is("count(10)", x.count(10), 6);
        x.step(1, 1);
        DUE.is("GOING again", x.task(1, 0), 1);
        DUE.is("SIDE", x.task(1, 8), 0);
        DUE.is("count(10)", x.count(10), 6);
        x.round(9);
        DUE.is("RESULT of TASK 1", x.task(1, 2), 8);
        DUE.is("RESULT of TASK 3", x.task(3, 2), 7);
        DUE.is("never(0)", x.never(0), 0);
    }

    private static void firstSideThatNobodyHas() {
        GrowingStacks x = new GrowingStacks();
        x.set(4, 3);
        Programs.foreign(x, 0, 1, 5, 1);
        Programs.forever(x, 1, 1);
        for (int t = 0; t < 5; t++) {
            x.start(t, 0, 0, 0);
        }
        x.round(1);
        int[] sides = {0, 1, 2, -1, -1};
        for (int t = 0; t < 5; t++) {
            DUE.is("SIDE of TASK " + t, x.task(t, 8), sides[t]);
        }
        DUE.is("look(9)", x.look(9), 3);
        x.stop(1);
        x.step(4, 1);
        DUE.is("SIDE of TASK 4", x.task(4, 8), 1);
        x.stop(2);
        x.stop(0);
        x.step(3, 1);
        DUE.is("SIDE of TASK 3", x.task(3, 8), 0);
        DUE.is("look(9)", x.look(9), 2);
    }

    private static void outGivesTheSideBack() {
        GrowingStacks x = new GrowingStacks();
        Programs.foreign(x, 0, 8, 5, 1);
        Programs.forever(x, 1, 8);
        x.start(0, 0, 0, 0);
        x.start(1, 0, 0, 0);
        x.step(0, 50);
        x.step(1, 1);
        DUE.is("WAITING", x.task(1, 0), 2);
        x.step(0, 200);
        DUE.is("OUT", x.task(0, 0), 4);
        DUE.is("SIDE", x.task(0, 8), -1);
        DUE.is("WORDS used there", x.task(0, 9), 0);
        x.step(1, 1);
        DUE.is("SIDE of the other one", x.task(1, 8), 0);
    }

    private static void quietAndJoinWhileWaiting() {
        GrowingStacks x = new GrowingStacks();
        x.set(2, 0);
        Programs.foreign(x, 0, 8, 5, 1);
        Programs.forever(x, 1, 1);
        Programs.same(x, 3, 8);
        x.function(2, 8, 0);
        x.line(2, Programs.CALL, 3, 0, 0);
        x.line(2, Programs.FOREIGN, 5, -1, 0);
        x.start(0, 0, 0, 0);
        x.step(0, 1);
        x.start(1, 2, 0, 1);
        x.step(1, 3);
        DUE.is("WAITING", x.task(1, 0), 2);
        DUE.yes("quiet(1)", x.quiet(1));
        DUE.yes("join(1)", x.join(1));
        DUE.is("WAITING", x.task(1, 0), 2);
        DUE.is("MODE", x.task(1, 1), 0);
    }
}
