/** Promises 19, 20 and 21: what is only thought, and of which nothing stays. */
public final class ThoughtTest {
    private static final Due DUE = new Due();

    public static void main(String[] args) {
        endlessStack();
        endlessByTwoThousandSteps();
        endlessWrong();
        landOfATask();
        landAmongOthers();
        landWrong();
        aloneCopiedAndLinked();
        aloneWithoutAnEnd();
        aloneAsItBegan();
        leastFirst();
        aloneWrong();
        nothingStays();
        DUE.end();
    }

    private static void endlessStack() {
        GrowingStacks x = new GrowingStacks();
        Programs.sum(x, 0);
        DUE.is("endless(0, 100, 0)", x.endless(0, 100, 0), 5050);
        DUE.is("endless(0, 100, 1)", x.endless(0, 100, 1), 603);
        DUE.is("endless(0, 100, 2)", x.endless(0, 100, 2), 505);
        DUE.is("endless(0, 0, 2)", x.endless(0, 0, 2), 5);
        // FRAMES of 10 WORDS: more than the memory has
        x.function(1, 8, 0);
        x.line(1, Programs.SET, 1, -1, 0);
        x.line(1, Programs.JUMP, 0, 3, 0);
        x.line(1, Programs.RETURN, 0, 0, 0);
        x.line(1, Programs.ADD, 1, 0, 1);
        x.line(1, Programs.CALL, 1, 1, 2);
        x.line(1, Programs.RETURN, 2, 0, 0);
        DUE.is("endless(1, 399, 1)", x.endless(1, 399, 1), 5 * 399 + 3);
        DUE.is("endless(1, 399, 2)", x.endless(1, 399, 2), 4000);
        DUE.is("endless(1, 400, 0)", x.endless(1, 400, 0), Programs.NO_WORD);
        Programs.foreign(x, 2, 1, 40, 3);
        Programs.foreign(x, 3, 1, 40, 4);
        Programs.foreign(x, 4, 1, 40, -1);
        DUE.is("SIDES that never lack anything", x.endless(2, 1, 0), 4);
        Programs.forever(x, 5, 1);
        DUE.is("endless(5, 0, 0)", x.endless(5, 0, 0), Programs.NO_WORD);
    }

    /** 1995 STEPS of the sum, one each for the call and the RETURN, and some that are QUIET. */
    private static void endlessByTwoThousandSteps() {
        for (int more = 0; more <= 4; more++) {
            GrowingStacks x = new GrowingStacks();
            Programs.sum(x, 0);
            x.function(1, 1, 0);
            x.line(1, Programs.CALL, 0, 0, 0);
            for (int i = 0; i < more; i++) {
                x.line(1, Programs.QUIET, 0, 0, 0);
            }
            x.line(1, Programs.RETURN, 0, 0, 0);
            int steps = 1995 + 2 + more;
            DUE.is(steps + " STEPS", x.endless(1, 332, 1), steps <= 2000 ? steps : Programs.NO_WORD);
            DUE.is(steps + " STEPS", x.endless(1, 332, 0), steps <= 2000 ? 332 * 333 / 2 : Programs.NO_WORD);
            DUE.is(steps + " STEPS", x.endless(1, 332, 2), steps <= 2000 ? 3 + 5 * 333 : Programs.NO_WORD);
        }
    }

    private static void endlessWrong() {
        GrowingStacks x = new GrowingStacks();
        Programs.same(x, 0, 1);
        DUE.is("endless(0, -1, 0)", x.endless(0, -1, 0), -1);
        DUE.is("endless(-1, 0, 0)", x.endless(-1, 0, 0), Programs.NO_WORD);
        DUE.is("endless(10, 0, 0)", x.endless(10, 0, 0), Programs.NO_WORD);
        DUE.is("endless(1, 0, 0)", x.endless(1, 0, 0), Programs.NO_WORD);
        DUE.is("endless(0, 0, -1)", x.endless(0, 0, -1), Programs.NO_WORD);
        DUE.is("endless(0, 0, 3)", x.endless(0, 0, 3), Programs.NO_WORD);
    }

    private static void land(GrowingStacks x, int task, int n, int... due) {
        for (int what = 0; what < 5; what++) {
            DUE.is("land(" + task + ", " + n + ", " + what + ")", x.land(task, n, what), due[what]);
        }
    }

    private static void landOfATask() {
        GrowingStacks x = new GrowingStacks();
        Programs.sum(x, 0);
        x.start(2, 0, 3, 0);
        land(x, 2, 1, 1, 1, 5, 16, 0);
        land(x, 2, 8, 1, 3, 15, 16, 0);
        land(x, 2, 12, 1, 4, 20, 32, 15);
        land(x, 2, 20, 1, 1, 5, 32, 15);
        land(x, 2, 21, 3, 0, 0, 0, 15);
        land(x, 2, 200, 3, 0, 0, 0, 15);
        x.step(2, 8);
        land(x, 2, 4, 1, 4, 20, 32, 15);
        x.step(2, 200);
        land(x, 2, 1, 3, 0, 0, 0, 15);
        land(x, 0, 1, 0, 0, 0, 0, 0);
    }

    /** The other TASKS stay as they are, with all that they have. */
    private static void landAmongOthers() {
        GrowingStacks x = new GrowingStacks();
        x.set(0, 64);
        Programs.forever(x, 0, 8);
        Programs.sum(x, 1);
        Programs.foreign(x, 2, 1, 5, 0);
        x.start(0, 0, 0, 1);
        x.start(1, 1, 20, 0);
        x.step(0, 185);
        DUE.is("look(6)", x.look(6), 2048);
        land(x, 1, 47, 1, 12, 60, 64, 0);
        land(x, 1, 48, 4, 0, 0, 0, 0);
        x.stop(0);
        land(x, 1, 48, 1, 13, 65, 128, 60);
        x.start(3, 2, 0, 0);
        x.start(4, 2, 0, 0);
        x.step(3, 1);
        land(x, 4, 5, 2, 1, 3, 64, 0);
        DUE.is("task(4, 0)", x.task(4, 0), 1);
    }

    private static void landWrong() {
        GrowingStacks x = new GrowingStacks();
        Programs.sum(x, 0);
        x.start(0, 0, 3, 0);
        DUE.is("land(-1, 1, 0)", x.land(-1, 1, 0), -1);
        DUE.is("land(6, 1, 0)", x.land(6, 1, 0), -1);
        DUE.is("land(0, 0, 0)", x.land(0, 0, 0), -1);
        DUE.is("land(0, 201, 0)", x.land(0, 201, 0), -1);
        DUE.is("land(0, 1, -1)", x.land(0, 1, -1), -1);
        DUE.is("land(0, 1, 5)", x.land(0, 1, 5), -1);
    }

    private static void alone(GrowingStacks x, int f, int a, int mode, int... due) {
        for (int what = 0; what < 7; what++) {
            DUE.is("alone(" + f + ", " + a + ", " + mode + ", " + what + ")", x.alone(f, a, mode, what), due[what]);
        }
    }

    private static void aloneCopiedAndLinked() {
        GrowingStacks x = new GrowingStacks();
        Programs.sum(x, 0);
        Programs.forever(x, 1, 8);
        alone(x, 0, 3, 0, 3, 21, 4, 15, 0, 32, 32);
        alone(x, 0, 3, 1, 3, 21, 4, 0, 1, 32, 32);
        // 15 FRAMES, 3 in each PIECE
        alone(x, 0, 14, 0, 3, 87, 15, 15 + 30 + 60, 0, 128, -1);
        alone(x, 0, 14, 1, 3, 87, 15, 0, 4, 80, -1);
        x.start(0, 1, 0, 1);
        x.step(0, 120);
        DUE.is("others count for nothing", x.alone(0, 14, 0, 0), 3);
        DUE.is("others count for nothing", x.alone(0, 14, 0, 5), 128);
    }

    private static void aloneWithoutAnEnd() {
        GrowingStacks x = new GrowingStacks();
        Programs.forever(x, 0, 8);
        x.function(1, 1, 0);
        x.line(1, Programs.JUMP, 0, 0, 0);
        // 16 .. 1024 WORDS; 2048 there are not
        alone(x, 0, 0, 0, 4, 102, 103, 10 + 30 + 60 + 120 + 250 + 510, 0, 1024, -1);
        // 128 PIECES with a FRAME in each
        alone(x, 0, 0, 1, 4, 128, 129, 0, 127, 2048, -1);
        alone(x, 1, 1, 0, 1, 2000, 1, 0, 0, 16, 8);
    }

    /** By one STEP it is DONE: what its PIECES had is what they had as it began. */
    private static void aloneAsItBegan() {
        GrowingStacks x = new GrowingStacks();
        x.set(0, 8);
        Programs.same(x, 0, 8);
        alone(x, 0, 5, 0, 3, 1, 1, 0, 0, 16, 16);
        alone(x, 0, 5, 1, 3, 1, 1, 0, 1, 18, 16);
    }

    private static void leastFirst() {
        GrowingStacks x = new GrowingStacks();
        Programs.sum(x, 0);
        int[][] rows = {{0, 8}, {1, 16}, {2, 16}, {3, 32}, {5, 32}, {6, 64}, {11, 64}, {12, -1}, {500, -1}};
        for (int[] r : rows) {
            for (int mode = 0; mode < 2; mode++) {
                DUE.is("alone(0, " + r[0] + ", " + mode + ", 6)", x.alone(0, r[0], mode, 6), r[1]);
            }
        }
        // COVERED: looked at once for all, though the call itself is never made
        x.function(1, 1, 0);
        x.line(1, Programs.RETURN, 0, 0, 0);
        x.line(1, Programs.CALL, 2, 0, 0);
        Programs.same(x, 2, 8);
        DUE.is("alone(1, 0, 0, 6)", x.alone(1, 0, 0, 6), 16);
        x.set(2, 0);
        DUE.is("MERGE 0: alone(1, 0, 0, 6)", x.alone(1, 0, 0, 6), 8);
    }

    private static void aloneWrong() {
        GrowingStacks x = new GrowingStacks();
        Programs.same(x, 0, 1);
        DUE.is("alone(-1, 0, 0, 0)", x.alone(-1, 0, 0, 0), -1);
        DUE.is("alone(10, 0, 0, 0)", x.alone(10, 0, 0, 0), -1);
        DUE.is("alone(1, 0, 0, 0)", x.alone(1, 0, 0, 0), -1);
        DUE.is("alone(0, 0, -1, 0)", x.alone(0, 0, -1, 0), -1);
        DUE.is("alone(0, 0, 2, 0)", x.alone(0, 0, 2, 0), -1);
        DUE.is("alone(0, 0, 0, -1)", x.alone(0, 0, 0, -1), -1);
        DUE.is("alone(0, 0, 0, 7)", x.alone(0, 0, 0, 7), -1);
    }

    private static void nothingStays() {
        GrowingStacks x = new GrowingStacks();
        Programs.sum(x, 0);
        x.start(0, 0, 9, 1);
        x.step(0, 20);
        x.image(true);
        String before = WholeTest.all(x);
        x.endless(0, 50, 0);
        x.alone(0, 50, 1, 5);
        x.alone(0, 50, 0, 6);
        x.land(0, 200, 0);
        DUE.yes("all is as it was", before.equals(WholeTest.all(x)));
        x.step(0, 5);
        x.image(false);
        DUE.yes("THE IMAGE is as it was", before.equals(WholeTest.all(x)));
    }
}
