/**
 * The Terms, ==== 3.: STEPS and FOREIGN calls. Each sentence that names an edge stands above the test that it has to
 * itself.
 */
public final class ForeignTermsTest {
    private static final Due DUE = new Due();

    public static void main(String[] args) {
        oneLineByAStep();
        noStepOfOthers();
        firstSideThatNobodyHas();
        waitingWithoutASide();
        triesAgainByItsNextStep();
        noOtherSideForWhoHasOne();
        asManyWordsAsThereAre();
        fewerWordsThanThatIsOut();
        fewerBehindWaitingIsOut();
        overAtOnceWithoutAFunction();
        overAtOnceIfNotTold();
        overAtOnceFarFromPlaceZero();
        calledBackWithSlotC();
        overAsItReturns();
        notOverAsAnotherReturns();
        calledBackWithoutRoom();
        sideGivenBackIfNoneIsUsed();
        sideGivenBackByStop();
        resultOutOfTheFirstFrame();
        DUE.end();
    }

    /** "A STEP of a TASK that is GOING or WAITING does one LINE (a RETURN where there is none, too)." */
    private static void oneLineByAStep() {
        GrowingStacks x = new GrowingStacks();
        x.function(0, 1, 0);
        for (int i = 0; i < 16; i++) {
            x.line(0, Programs.ADD, 0, 0, 0);
        }
        x.start(0, 0, 1, 0);
        for (int i = 0; i < 16; i++) {
            DUE.is("LINE that comes next", x.task(0, 11), i);
            DUE.slots(x, 0, 0, 1 << i);
            DUE.is("step(0, 1)", x.step(0, 1), 1);
            DUE.is("STEPS", x.task(0, 3), i + 1);
        }
        DUE.is("LINE that comes next", x.task(0, 11), 16);
        DUE.is("GOING", x.task(0, 0), 1);
        DUE.is("the RETURN is a STEP: step(0, 1)", x.step(0, 1), 1);
        DUE.is("STEPS", x.task(0, 3), 17);
        DUE.is("DONE", x.task(0, 0), 3);
    }

    /** The same: one that is none, DONE or OUT makes none. */
    private static void noStepOfOthers() {
        GrowingStacks x = new GrowingStacks();
        Programs.same(x, 0, 1);
        Programs.forever(x, 1, 8);
        x.start(0, 0, 5, 0);
        x.start(1, 1, 5, 0);
        x.step(0, 1);
        x.step(1, 200);
        String before = WholeTest.all(x);
        for (int t = 0; t < 3; t++) {
            DUE.is("step(" + t + ", 200)", x.step(t, 200), 0);
        }
        DUE.is("round(100)", x.round(100), 0);
        DUE.yes("nothing", before.equals(WholeTest.all(x)));
    }

    /** TASKS that have a SIDE as long as they go on, or wait for one. */
    private static GrowingStacks sides(int sides, int tasks) {
        GrowingStacks x = new GrowingStacks();
        x.set(4, sides);
        Programs.foreign(x, 0, 2, 5, 1);
        Programs.through(x, 1, 1, 2);
        Programs.same(x, 2, 1);
        for (int t = 0; t < tasks; t++) {
            x.start(t, 0, 10 + t, t % 2);
        }
        x.round(1);
        return x;
    }

    /** "has the TASK no SIDE: it takes the first one that nobody has". */
    private static void firstSideThatNobodyHas() {
        for (int many = 1; many <= 3; many++) {
            GrowingStacks x = sides(many, 6);
            for (int t = 0; t < 6; t++) {
                DUE.is("SIDES " + many + ": task(" + t + ", 8)", x.task(t, 8), t < many ? t : -1);
                DUE.is("SIDES " + many + ": task(" + t + ", 9)", x.task(t, 9), t < many ? 5 : 0);
            }
            DUE.is("look(9)", x.look(9), many);
            DUE.is("look(10)", x.look(10), many);
            DUE.is("look(11)", x.look(11), 6 - many);
        }
        GrowingStacks x = sides(3, 6);
        x.stop(1);
        x.stop(0);
        x.step(5, 1);
        DUE.is("SIDES 0 and 1 are free: task(5, 8)", x.task(5, 8), 0);
        x.step(3, 1);
        DUE.is("SIDE 1 is free: task(3, 8)", x.task(3, 8), 1);
        x.step(4, 1);
        DUE.is("none is free: task(4, 8)", x.task(4, 8), -1);
    }

    /** "is there none: it is WAITING": nothing else comes of that STEP. */
    private static void waitingWithoutASide() {
        GrowingStacks x = sides(1, 1);
        x.start(1, 0, 7, 0);
        DUE.is("step(1, 1)", x.step(1, 1), 1);
        int[] due = {2, 0, 0, 1, 1, 4, 1, 16, -1, 0, 0, 0, 1, 0, 0, 0, 0, 0, 4};
        for (int what = 0; what <= 18; what++) {
            DUE.is("task(1, " + what + ")", x.task(1, what), due[what]);
        }
        DUE.slots(x, 1, 0, 7, 0);
        DUE.is("frame(1, 0, 4)", x.frame(1, 0, 4), 0);
        DUE.is("count(9)", x.count(9), 0);
        DUE.is("count(10)", x.count(10), 1);
        DUE.is("nothing is told of it", x.look(14), 0);
    }

    /** "and tries again by its next STEP". */
    private static void triesAgainByItsNextStep() {
        GrowingStacks x = sides(1, 2);
        DUE.is("step(1, 200)", x.step(1, 200), 200);
        DUE.is("WAITING", x.task(1, 0), 2);
        DUE.is("STEPS", x.task(1, 3), 201);
        DUE.is("count(10)", x.count(10), 201);
        x.step(0, 3);
        DUE.is("the SIDE is free", x.look(9), 0);
        DUE.is("it is WAITING still", x.task(1, 0), 2);
        DUE.is("look(11)", x.look(11), 1);
        x.step(1, 1);
        DUE.is("GOING", x.task(1, 0), 1);
        DUE.is("SIDE", x.task(1, 8), 0);
        DUE.is("it calls back by the same STEP", x.task(1, 4), 2);
        DUE.is("count(10)", x.count(10), 201);
        x.step(1, 9);
        DUE.is("RESULT", x.task(1, 2), 11);
    }

    /** "has the TASK no SIDE": who has one goes on there, though no other one is free. */
    private static void noOtherSideForWhoHasOne() {
        GrowingStacks x = new GrowingStacks();
        Programs.foreign(x, 0, 1, 20, 1);
        Programs.foreign(x, 1, 1, 20, 2);
        Programs.foreign(x, 2, 1, 20, -1);
        x.start(0, 0, 1, 0);
        x.step(0, 2);
        DUE.is("WORDS used on its SIDE", x.task(0, 9), 40);
        x.step(0, 1);
        DUE.is("GOING", x.task(0, 0), 1);
        DUE.is("count(9)", x.count(9), 1);
        x.step(0, 9);
        DUE.is("RESULT", x.task(0, 2), 4);
        DUE.is("count(10)", x.count(10), 0);
    }

    /** FOREIGN calls of 40, 40 and so many WORDS, one out of the other. */
    private static GrowingStacks three(int side, int words) {
        GrowingStacks x = new GrowingStacks();
        x.set(5, side);
        Programs.foreign(x, 0, 1, 40, 1);
        Programs.foreign(x, 1, 1, 40, 2);
        Programs.foreign(x, 2, 1, words, 3);
        Programs.same(x, 3, 1);
        x.start(0, 0, 6, 0);
        x.step(0, 3);
        return x;
    }

    /** "On its SIDE a WORDS more are used": up to all that it has. */
    private static void asManyWordsAsThereAre() {
        int[][] rows = {{90, 10}, {89, 9}, {81, 1}, {90, 1}};
        for (int[] r : rows) {
            GrowingStacks x = three(r[0], r[1]);
            DUE.is("SIDE " + r[0] + ", " + r[1] + " WORDS: state", x.task(0, 0), 1);
            DUE.is("WORDS used there", x.task(0, 9), 80 + r[1]);
            x.step(0, 9);
            DUE.is("RESULT", x.task(0, 2), 6);
            DUE.is("count(9)", x.count(9), 3);
        }
        for (int words = 1; words <= 10; words += 9) {
            GrowingStacks x = new GrowingStacks();
            x.set(5, 10);
            Programs.foreign(x, 0, 1, words, -1);
            x.start(0, 0, 6, 0);
            x.step(0, 2);
            DUE.is("SIDE 10, " + words + " WORDS: RESULT", x.task(0, 2), 19);
        }
    }

    /** "are there fewer: it is OUT". */
    private static void fewerWordsThanThatIsOut() {
        int[][] rows = {{90, 11}, {89, 10}, {80, 1}, {90, 40}};
        for (int[] r : rows) {
            GrowingStacks x = three(r[0], r[1]);
            DUE.is("SIDE " + r[0] + ", " + r[1] + " WORDS: state", x.task(0, 0), 4);
            DUE.is("STEPS", x.task(0, 3), 3);
            DUE.is("SIDE", x.task(0, 8), -1);
            DUE.is("WORDS used there", x.task(0, 9), 0);
            DUE.is("count(1)", x.count(1), 1);
            DUE.is("count(9)", x.count(9), 0);
            DUE.is("look(9)", x.look(9), 0);
            DUE.log(x, 0, 8, 0, -1, -1);
            DUE.gaps(x, 0, 2048);
        }
        GrowingStacks x = new GrowingStacks();
        x.set(5, 39);
        Programs.foreign(x, 0, 1, 40, -1);
        x.start(0, 0, 6, 1);
        x.step(0, 1);
        DUE.is("SIDE 39, 40 WORDS: state", x.task(0, 0), 4);
        DUE.is("look(9)", x.look(9), 0);
    }

    /** The same as it has waited for that SIDE. */
    private static void fewerBehindWaitingIsOut() {
        GrowingStacks x = new GrowingStacks();
        x.set(5, 30);
        Programs.foreign(x, 0, 1, 5, 1);
        Programs.same(x, 1, 1);
        Programs.foreign(x, 2, 1, 31, -1);
        x.start(0, 0, 5, 0);
        x.start(1, 2, 5, 0);
        x.step(0, 1);
        x.step(1, 1);
        DUE.is("WAITING", x.task(1, 0), 2);
        x.step(0, 1);
        x.step(1, 1);
        DUE.is("OUT", x.task(1, 0), 4);
        DUE.is("look(9)", x.look(9), 0);
        DUE.is("look(11)", x.look(11), 0);
        DUE.is("count(10)", x.count(10), 1);
    }

    /** "Without a FUNCTION that is called back .. it is over at once: NUMBER c is three times itself and 1." */
    private static void overAtOnceWithoutAFunction() {
        int[][] rows = {{0, 1}, {1, 4}, {-1, -2}, {333, 1000}, {-333, -998}};
        for (int[] r : rows) {
            GrowingStacks x = new GrowingStacks();
            x.function(0, 4, 0b0010);
            x.line(0, Programs.SET, 3, r[0], 0);
            x.line(0, Programs.FOREIGN, 40, -1, 3);
            x.start(0, 0, 77, 0);
            x.step(0, 1);
            DUE.is("step(0, 1)", x.step(0, 1), 1);
            DUE.slots(x, 0, 0, 77, -1, 0, r[1]);
            DUE.is("LINE that comes next", x.task(0, 11), 2);
            DUE.is("SIDE", x.task(0, 8), -1);
            DUE.is("FRAMES", x.task(0, 4), 1);
            DUE.is("count(9)", x.count(9), 1);
        }
    }

    /** "(or that is not told)". */
    private static void overAtOnceIfNotTold() {
        GrowingStacks x = new GrowingStacks();
        Programs.same(x, 4, 1);
        x.function(0, 3, 0);
        x.line(0, Programs.SET, 2, 5, 0);
        x.line(0, Programs.FOREIGN, 1, 4, 2);
        x.function(4, 0, 0);
        DUE.is("deep(0)", x.deep(0), 5);
        x.start(0, 0, 7, 0);
        x.step(0, 2);
        DUE.slots(x, 0, 0, 7, 0, 16);
        DUE.is("FRAMES", x.task(0, 4), 1);
        DUE.is("CHECKED", x.task(0, 12), 1);
        DUE.is("count(9)", x.count(9), 1);
        DUE.is("count(11)", x.count(11), 0);
        DUE.is("SIDE", x.task(0, 8), -1);
    }

    /** The same far from place 0, out of a FRAME in a second PIECE, of a FUNCTION that is not the first one. */
    private static void overAtOnceFarFromPlaceZero() {
        GrowingStacks x = new GrowingStacks();
        x.set(2, 0);
        Programs.through(x, 4, 8, 7);
        x.function(7, 8, 0);
        for (int s = 0; s < 8; s++) {
            x.line(7, Programs.SET, s, 50 + s, 0);
        }
        x.line(7, Programs.FOREIGN, 3, 0, 5);
        x.line(7, Programs.FOREIGN, 2, -1, 6);
        x.start(5, 4, 9, 0);
        x.start(3, 4, 9, 1);
        x.step(3, 9);
        x.step(3, 1);
        DUE.slots(x, 3, 1, 50, 51, 52, 53, 54, 166, 56, 57);
        x.step(3, 1);
        DUE.slots(x, 3, 1, 50, 51, 52, 53, 54, 166, 169, 57);
        DUE.slots(x, 3, 0, 9, 0, 0, 0, 0, 0, 0, 0);
        DUE.slots(x, 5, 0, 9, 0, 0, 0, 0, 0, 0, 0);
        DUE.is("LINE", x.task(3, 11), 10);
    }

    /** "Else that is called with SLOT c". */
    private static void calledBackWithSlotC() {
        GrowingStacks x = new GrowingStacks();
        x.function(0, 3, 0);
        x.line(0, Programs.SET, 1, 50, 0);
        x.line(0, Programs.SET, 2, 60, 0);
        x.line(0, Programs.FOREIGN, 1, 1, 2);
        Programs.same(x, 1, 2);
        x.start(0, 0, 40, 0);
        x.step(0, 3);
        DUE.slots(x, 0, 0, 40, 50, 60);
        DUE.slots(x, 0, 1, 60, 0);
        GrowingStacks y = new GrowingStacks();
        Programs.foreign(y, 0, 1, 1, 1);
        y.function(1, 1, 1);
        y.start(0, 0, 40, 0);
        y.step(0, 1);
        DUE.slots(y, 0, 1, -1);
    }

    /** "as it RETURNS the FOREIGN call is over: NUMBER c is what it RETURNED". */
    private static void overAsItReturns() {
        GrowingStacks x = new GrowingStacks();
        x.function(0, 3, 0);
        x.line(0, Programs.SET, 1, 5, 0);
        x.line(0, Programs.FOREIGN, 7, 1, 1);
        x.function(1, 1, 0);
        x.line(1, Programs.ADD, 0, 0, 0);
        x.line(1, Programs.RETURN, 0, 0, 0);
        x.start(0, 0, 40, 0);
        x.step(0, 3);
        DUE.slots(x, 0, 0, 40, 5, 0);
        DUE.is("not over: count(9)", x.count(9), 0);
        DUE.is("WORDS used on its SIDE", x.task(0, 9), 7);
        x.step(0, 1);
        DUE.slots(x, 0, 0, 40, 10, 0);
        DUE.is("over: count(9)", x.count(9), 1);
        DUE.is("LINE that comes next", x.task(0, 11), 2);
        DUE.is("it goes on: step(0, 9)", x.step(0, 9), 1);
        x.function(1, 1, 0);
        x.start(0, 0, 40, 0);
        x.step(0, 3);
        DUE.slots(x, 0, 0, 40, 0, 0);
        DUE.is("where there was no LINE any more: count(9)", x.count(9), 2);
    }

    /** The same: what is called on the way RETURNS as ever. */
    private static void notOverAsAnotherReturns() {
        GrowingStacks x = sides(1, 1);
        x.step(0, 1);
        DUE.is("FRAMES", x.task(0, 4), 3);
        DUE.is("called back", x.frame(0, 1, 5), 1);
        DUE.is("called", x.frame(0, 2, 5), 0);
        x.step(0, 1);
        DUE.is("count(9)", x.count(9), 0);
        DUE.is("WORDS used on its SIDE", x.task(0, 9), 5);
        x.step(0, 1);
        DUE.is("count(9)", x.count(9), 1);
        DUE.is("SIDE", x.task(0, 8), -1);
    }

    /** "that is called ..": as by any other call, it is OUT if there is no gap for it. */
    private static void calledBackWithoutRoom() {
        GrowingStacks x = new GrowingStacks();
        x.set(0, 64);
        Programs.forever(x, 0, 8);
        Programs.foreign(x, 1, 8, 5, 2);
        x.function(2, 8, 0);
        x.line(2, Programs.FOREIGN, 5, 2, 0);
        x.start(1, 1, 0, 0);
        x.start(0, 0, 0, 1);
        x.step(0, 30 * 6 + 5);
        DUE.gaps(x);
        DUE.is("step(1, 5)", x.step(1, 5), 5);
        DUE.is("WORDS used on its SIDE", x.task(1, 9), 25);
        DUE.is("WORDS used", x.task(1, 5), 60);
        x.step(1, 1);
        DUE.is("OUT", x.task(1, 0), 4);
        DUE.is("look(9)", x.look(9), 0);
        DUE.is("count(9)", x.count(9), 0);
        DUE.gaps(x, 0, 64);
    }

    /** "Over: its WORDS on the SIDE are not used any more; the SIDE is given back, if none is." */
    private static void sideGivenBackIfNoneIsUsed() {
        GrowingStacks x = three(90, 10);
        int[] used = {80, 40, 0};
        for (int i = 0; i < 3; i++) {
            x.step(0, 1);
            DUE.is("WORDS used there", x.task(0, 9), used[i]);
            DUE.is("SIDE", x.task(0, 8), i < 2 ? 0 : -1);
            DUE.is("look(9)", x.look(9), i < 2 ? 1 : 0);
            DUE.is("count(9)", x.count(9), i + 1);
        }
    }

    /** A TASK that is none any more has no SIDE. */
    private static void sideGivenBackByStop() {
        GrowingStacks x = sides(2, 3);
        DUE.is("task(2, 0)", x.task(2, 0), 2);
        DUE.yes("stop(0)", x.stop(0));
        DUE.is("look(9)", x.look(9), 1);
        DUE.is("task(0, 8)", x.task(0, 8), -1);
        DUE.is("task(0, 9)", x.task(0, 9), 0);
        DUE.yes("a WAITING one: stop(2)", x.stop(2));
        DUE.is("look(11)", x.look(11), 0);
        x.start(3, 0, 0, 0);
        x.step(3, 1);
        DUE.is("task(3, 8)", x.task(3, 8), 0);
        DUE.is("task(1, 8)", x.task(1, 8), 1);
    }

    /** "What RETURNS out of the first FRAME is the RESULT: DONE." */
    private static void resultOutOfTheFirstFrame() {
        int[] results = {Integer.MIN_VALUE, -1000000000, -1, 0, 1, Integer.MAX_VALUE};
        for (int r : results) {
            for (int mode = 0; mode < 2; mode++) {
                GrowingStacks x = new GrowingStacks();
                Programs.chain(x, 0, 2, 3);
                x.start(0, 0, r, mode);
                DUE.is("step(0, 4)", x.step(0, 4), 4);
                DUE.is("GOING", x.task(0, 0), 1);
                DUE.is("0 until DONE", x.task(0, 2), 0);
                DUE.is("step(0, 4)", x.step(0, 4), 1);
                DUE.is("DONE", x.task(0, 0), 3);
                DUE.is("RESULT", x.task(0, 2), r);
                DUE.is("count(0)", x.count(0), 1);
                DUE.log(x, 0, 9, 0, -1, -1);
            }
        }
    }
}
