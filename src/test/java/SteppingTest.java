/** Promises 6, 7, 8, 14, 15 and 16: STEPS, and where each WORD lies. */
public final class SteppingTest {
    private static final Due DUE = new Due();

    public static void main(String[] args) {
        wrongSteps();
        kindsOfLines();
        numbersWrap();
        noLineAnyMore();
        sixteenLines();
        jumps();
        notToldIsCalled();
        whatItIsCalledWith();
        framesAndBacks();
        pointersIntoCallers();
        rounds();
        stops();
        factsOfTasks();
        DUE.end();
    }

    private static void wrongSteps() {
        GrowingStacks x = new GrowingStacks();
        Programs.forever(x, 0, 1);
        x.start(0, 0, 0, 0);
        DUE.is("step(-1, 1)", x.step(-1, 1), -1);
        DUE.is("step(6, 1)", x.step(6, 1), -1);
        DUE.is("step(0, 0)", x.step(0, 0), -1);
        DUE.is("step(0, 201)", x.step(0, 201), -1);
        DUE.is("step(0, -1)", x.step(0, -1), -1);
        DUE.is("step(1, 201), of none", x.step(1, 201), -1);
        DUE.is("step(1, 200), of none", x.step(1, 200), 0);
        DUE.is("step(0, 200)", x.step(0, 200), 200);
        DUE.is("task(0, 3)", x.task(0, 3), 200);
        DUE.is("count(2)", x.count(2), 200);
    }

    /** NUMBERS 0 .. 3, POINTERS 4, 5; behind each STEP, what NUMBERS 0 .. 3 are. */
    private static void kindsOfLines() {
        GrowingStacks x = new GrowingStacks();
        x.function(0, 6, 48);
        x.line(0, Programs.SET, 0, -999, 0);
        x.line(0, Programs.SET, 1, 999, 0);
        x.line(0, Programs.ADD, 2, 0, 1);
        x.line(0, Programs.LESS, 3, 0, 1);
        x.line(0, Programs.POINT, 4, 1, 0);
        x.line(0, Programs.LOAD, 2, 4, 0);
        x.line(0, Programs.STORE, 4, 0, 0);
        x.line(0, Programs.LESS, 3, 0, 1);
        x.line(0, Programs.LOAD, 2, 5, 0);
        x.line(0, Programs.STORE, 5, 0, 0);
        x.line(0, Programs.QUIET, 0, 0, 0);
        x.line(0, Programs.RETURN, 1, 0, 0);
        int[][] rows = {
            {-999, 0, 0, 0}, {-999, 999, 0, 0}, {-999, 999, 0, 0}, {-999, 999, 0, 1}, {-999, 999, 0, 1},
            {-999, 999, 999, 1}, {-999, -999, 999, 1}, {-999, -999, 999, 0}, {-999, -999, 0, 0}, {-999, -999, 0, 0},
            {-999, -999, 0, 0},
        };
        x.start(3, 0, 5, 0);
        for (int i = 0; i < rows.length; i++) {
            DUE.is("LINE that comes next", x.task(3, 11), i);
            DUE.is("step(3, 1)", x.step(3, 1), 1);
            for (int s = 0; s < 4; s++) {
                DUE.is("behind LINE " + i + " NUMBER " + s, x.slot(3, 0, s, 1), rows[i][s]);
            }
            DUE.is("behind LINE " + i + " POINTER 4", x.slot(3, 0, 4, 1), i < 4 ? -1 : 3);
            DUE.is("behind LINE " + i + " POINTER 5", x.slot(3, 0, 5, 1), -1);
        }
        DUE.is("slot(3, 0, 4, 0)", x.slot(3, 0, 4, 0), 1);
        DUE.is("slot(3, 0, 4, 2)", x.slot(3, 0, 4, 2), 0);
        DUE.is("slot(3, 0, 4, 3)", x.slot(3, 0, 4, 3), 1);
        DUE.is("slot(3, 0, 5, 2)", x.slot(3, 0, 5, 2), -1);
        DUE.is("slot(3, 0, 5, 3)", x.slot(3, 0, 5, 3), -1);
        DUE.is("slot(3, 0, 1, 2)", x.slot(3, 0, 1, 2), -1);
        DUE.is("slot(3, 0, 1, 3)", x.slot(3, 0, 1, 3), -1);
        DUE.is("step(3, 9)", x.step(3, 9), 1);
        DUE.is("RESULT", x.task(3, 2), -999);
    }

    private static void numbersWrap() {
        GrowingStacks x = new GrowingStacks();
        x.function(0, 1, 0);
        x.line(0, Programs.ADD, 0, 0, 0);
        x.line(0, Programs.RETURN, 0, 0, 0);
        DUE.is("endless", x.endless(0, Integer.MAX_VALUE, 0), -2);
        Programs.foreign(x, 1, 1, 1, -1);
        DUE.is("endless", x.endless(1, Integer.MAX_VALUE, 0), 3 * Integer.MAX_VALUE + 1);
    }

    private static void noLineAnyMore() {
        GrowingStacks x = new GrowingStacks();
        x.function(0, 2, 0);
        x.start(0, 0, 9, 0);
        DUE.is("step(0, 2)", x.step(0, 2), 1);
        DUE.is("task(0, 0)", x.task(0, 0), 3);
        DUE.is("task(0, 2)", x.task(0, 2), 0);
        x.line(0, Programs.SET, 0, 4, 0);
        x.start(0, 0, 9, 1);
        DUE.is("step(0, 1)", x.step(0, 1), 1);
        DUE.is("task(0, 11)", x.task(0, 11), 1);
        DUE.is("step(0, 9)", x.step(0, 9), 1);
        DUE.is("task(0, 2)", x.task(0, 2), 0);
        DUE.is("task(0, 3)", x.task(0, 3), 2);
    }

    /** The call is LINE 15: behind it is LINE 16, which is not there. */
    private static void sixteenLines() {
        GrowingStacks x = new GrowingStacks();
        x.function(9, 1, 0);
        for (int i = 0; i < 15; i++) {
            x.line(9, Programs.ADD, 0, 0, 0);
        }
        x.line(9, Programs.CALL, 1, 0, 0);
        Programs.same(x, 1, 1);
        x.start(0, 9, 1, 0);
        x.step(0, 16);
        DUE.is("LINE 15 is done", x.task(0, 4), 2);
        DUE.is("called with", x.slot(0, 1, 0, 1), 1 << 15);
        DUE.is("BACK", x.frame(0, 1, 7), 32 * 9 + 16 + 1024);
        DUE.is("LINE behind it", x.frame(0, 0, 4), 16);
        x.step(0, 1);
        DUE.is("what it RETURNED", x.slot(0, 0, 0, 1), 1 << 15);
        DUE.is("LINE that comes next", x.task(0, 11), 16);
        DUE.is("step(0, 9)", x.step(0, 9), 1);
        DUE.is("RESULT", x.task(0, 2), 0);
    }

    private static void jumps() {
        GrowingStacks x = new GrowingStacks();
        x.function(0, 1, 0);
        x.line(0, Programs.JUMP, 0, 15, 0);
        x.line(0, Programs.SET, 0, 7, 0);
        x.line(0, Programs.RETURN, 0, 0, 0);
        for (int a = -1; a <= 1; a++) {
            x.start(0, 0, a, 0);
            x.step(0, 1);
            DUE.is("called with " + a + ": LINE", x.task(0, 11), a > 0 ? 15 : 1);
            DUE.is("called with " + a + ": STEPS", x.step(0, 9), a > 0 ? 1 : 2);
            DUE.is("called with " + a + ": RESULT", x.task(0, 2), a > 0 ? 0 : 7);
        }
    }

    private static void notToldIsCalled() {
        GrowingStacks x = new GrowingStacks();
        Programs.through(x, 0, 1, 9);
        x.start(0, 0, 5, 0);
        x.step(0, 1);
        DUE.is("FRAMES", x.task(0, 4), 1);
        DUE.is("CHECKED", x.task(0, 12), 1);
        DUE.is("COVERED without a CHECK", x.count(11), 0);
        DUE.is("it RETURNS 0", x.slot(0, 0, 0, 1), 0);
        DUE.is("LINE", x.task(0, 11), 1);
    }

    /** FUNCTION 0 has NUMBER 0 and POINTER 1; it calls 1 (a NUMBER first) and 2 (a POINTER first) with both. */
    private static void whatItIsCalledWith() {
        int[][] rows = {{1, 0, 42}, {1, 1, 0}, {2, 0, -1}, {2, 1, 2}};
        for (int[] r : rows) {
            GrowingStacks x = new GrowingStacks();
            x.function(0, 3, 2);
            x.line(0, Programs.POINT, 1, 0, 0);
            x.line(0, Programs.CALL, r[0], r[1], 2);
            x.function(1, 2, 2);
            x.function(2, 2, 3);
            x.start(0, 0, 42, 0);
            x.step(0, 2);
            DUE.is("FUNCTION " + r[0] + " called with SLOT " + r[1], x.slot(0, 1, 0, 1), r[2]);
            DUE.is("its other SLOT", x.slot(0, 1, 1, 1), -1);
        }
    }

    private static void framesAndBacks() {
        GrowingStacks x = new GrowingStacks();
        x.set(3, 10);
        Programs.same(x, 9, 2);
        x.function(4, 8, 0);
        x.line(4, Programs.QUIET, 0, 0, 0);
        x.line(4, Programs.QUIET, 0, 0, 0);
        x.line(4, Programs.CALL, 9, 0, 1);
        x.start(1, 4, 6, 0);
        x.step(1, 3);
        int[][] rows = {{4, 0, 0, 0, 3, 0, -1, 0}, {9, 10, 0, 1, 0, 0, 0, 32 * 4 + 3 + 1024}};
        for (int i = 0; i < 2; i++) {
            for (int what = 0; what < 8; what++) {
                DUE.is("frame(1, " + i + ", " + what + ")", x.frame(1, i, what), rows[i][what]);
            }
        }
        DUE.is("frame(1, 0, -1)", x.frame(1, 0, -1), -1);
        DUE.is("frame(1, 0, 8)", x.frame(1, 0, 8), -1);
        DUE.is("frame(1, -1, 0)", x.frame(1, -1, 0), -1);
        DUE.is("frame(1, 2, 0)", x.frame(1, 2, 0), -1);
        DUE.is("frame(-1, 0, 0)", x.frame(-1, 0, 0), -1);
        DUE.is("frame(6, 0, 0)", x.frame(6, 0, 0), -1);
        DUE.is("frame(0, 0, 0)", x.frame(0, 0, 0), -1);
        DUE.is("slot(1, 1, 0, 1)", x.slot(1, 1, 0, 1), 6);
        int[][] none = {{-1, 0, 0, 0}, {6, 0, 0, 0}, {0, 0, 0, 0}, {1, -1, 0, 0}, {1, 2, 0, 0}, {1, 1, -1, 0},
            {1, 1, 2, 0}, {1, 0, 8, 0}, {1, 0, 0, -1}, {1, 0, 0, 4}};
        for (int[] n : none) {
            String call = "slot(" + n[0] + ", " + n[1] + ", " + n[2] + ", " + n[3] + ")";
            DUE.is(call, x.slot(n[0], n[1], n[2], n[3]), Programs.NO_WORD);
        }
    }

    /** FUNCTION 0 hands a POINTER to its NUMBER 0 down to 1 and that to 2, which STORES there. */
    private static void pointersIntoCallers() {
        GrowingStacks x = new GrowingStacks();
        x.set(2, 0);
        x.function(0, 3, 4);
        x.line(0, Programs.POINT, 2, 1, 0);
        x.line(0, Programs.CALL, 1, 2, 0);
        x.line(0, Programs.ADD, 0, 0, 1);
        x.line(0, Programs.RETURN, 0, 0, 0);
        x.function(1, 2, 1);
        x.line(1, Programs.CALL, 2, 0, 1);
        x.line(1, Programs.RETURN, 1, 0, 0);
        x.function(2, 2, 1);
        x.line(2, Programs.SET, 1, 30, 0);
        x.line(2, Programs.STORE, 0, 1, 0);
        x.line(2, Programs.SET, 1, 4, 0);
        x.line(2, Programs.RETURN, 1, 0, 0);
        x.start(0, 0, 0, 1);
        x.step(0, 3);
        DUE.is("frame(0, 2, 1)", x.frame(0, 2, 1), 9);
        DUE.is("slot(0, 2, 0, 1)", x.slot(0, 2, 0, 1), 3);
        DUE.is("slot(0, 2, 0, 2)", x.slot(0, 2, 0, 2), 0);
        DUE.is("slot(0, 2, 0, 3)", x.slot(0, 2, 0, 3), 1);
        x.step(0, 2);
        DUE.is("stored there", x.slot(0, 0, 1, 1), 30);
        DUE.is("step(0, 200)", x.step(0, 200), 5);
        DUE.is("RESULT", x.task(0, 2), 34);
        DUE.is("never(0)", x.never(0), 0);
    }

    private static void rounds() {
        GrowingStacks x = new GrowingStacks();
        Programs.sum(x, 0);
        DUE.is("round(0)", x.round(0), -1);
        DUE.is("round(101)", x.round(101), -1);
        DUE.is("round(100), of none", x.round(100), 0);
        x.start(1, 0, 0, 0);
        x.start(4, 0, 1, 1);
        x.start(2, 0, 2, 0);
        DUE.is("round(1)", x.round(1), 3);
        DUE.is("task(4, 3)", x.task(4, 3), 1);
        DUE.is("round(3)", x.round(3), 2 + 3 + 3);
        DUE.is("task(1, 0)", x.task(1, 0), 3);
        DUE.is("round(100)", x.round(100), 5 + 11);
        DUE.is("task(4, 2)", x.task(4, 2), 1);
        DUE.is("task(2, 2)", x.task(2, 2), 3);
        DUE.is("count(0)", x.count(0), 3);
        DUE.is("by numbers: who was DONE last", x.log(0, 1), 2);
        DUE.is("then", x.log(1, 1), 4);
        DUE.is("then", x.log(2, 1), 1);
    }

    private static void stops() {
        GrowingStacks x = new GrowingStacks();
        Programs.forever(x, 0, 8);
        DUE.no("stop(-1)", x.stop(-1));
        DUE.no("stop(6)", x.stop(6));
        DUE.no("stop(0), of none", x.stop(0));
        x.start(0, 0, 0, 1);
        x.step(0, 10);
        int lines = x.look(14);
        DUE.yes("stop(0)", x.stop(0));
        DUE.is("nothing is told of it", x.look(14), lines);
        DUE.no("stop(0) again", x.stop(0));
        DUE.is("look(6)", x.look(6), 0);
        for (int what = 0; what <= 18; what++) {
            DUE.is("task(0, " + what + ")", x.task(0, what), what == 8 || what == 10 || what == 11 ? -1 : 0);
        }
        DUE.is("what was counted stays", x.count(2), 10);
        Programs.same(x, 1, 1);
        x.start(0, 1, 0, 0);
        x.step(0, 1);
        DUE.yes("DONE: stop(0)", x.stop(0));
        DUE.is("task(0, 0)", x.task(0, 0), 0);
    }

    private static void factsOfTasks() {
        GrowingStacks x = new GrowingStacks();
        Programs.sum(x, 7);
        x.start(2, 7, 4, 1);
        x.step(2, 14);
        int[] going = {1, 1, 0, 14, 4, 20, 2, 32, -1, 0, 7, 3, 4, 0, 0, 1, 0, 0, 20};
        for (int what = 0; what <= 18; what++) {
            DUE.is("task(2, " + what + ")", x.task(2, what), going[what]);
        }
        x.step(2, 200);
        int[] done = {3, 1, 10, 27, 0, 0, 0, 0, -1, 0, -1, -1, 5, 0, 0, 1, 0, 0, 25};
        for (int what = 0; what <= 18; what++) {
            DUE.is("DONE: task(2, " + what + ")", x.task(2, what), done[what]);
        }
        DUE.is("task(2, -1)", x.task(2, -1), -1);
        DUE.is("task(2, 19)", x.task(2, 19), -1);
        DUE.is("task(-1, 0)", x.task(-1, 0), -1);
        DUE.is("task(6, 0)", x.task(6, 0), -1);
        DUE.is("frame(2, 0, 0)", x.frame(2, 0, 0), -1);
        DUE.is("piece(2, 0, 0)", x.piece(2, 0, 0), -1);
    }
}
