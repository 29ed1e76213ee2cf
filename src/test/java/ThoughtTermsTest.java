/**
 * The Terms, ==== 4.: what is thought, GAPS and THE IMAGE. Each sentence that names an edge stands above the test that
 * it has to itself.
 */
public final class ThoughtTermsTest {
    private static final Due DUE = new Due();

    public static void main(String[] args) {
        asATaskWouldBegin();
        sidesThatNeverLackAnything();
        sidesOfOthersCountForNothing();
        endlessBeyondTheMemory();
        mostWordsAtOnce();
        doneByTwoThousandSteps();
        neverDone();
        landBehindSteps();
        landLeavesTheOthers();
        landInTheRealMemory();
        landWithTheSidesThatThereAre();
        aloneWithoutOthers();
        aloneAsATaskThatIsAlone();
        aloneBySettings();
        aloneTwoThousandSteps();
        aloneBehindAStep();
        aloneLeastFirst();
        aloneLeastFirstByCalls();
        nothingStays();
        gapsByPlaces();
        imageOfAll();
        imageMoreThanOnce();
        imageOfEachKind();
        imageOfTenFunctions();
        noImage();
        DUE.end();
    }

    /** "IN THOUGHT, of a FUNCTION called with a number (as a TASK would begin ..)". */
    private static void asATaskWouldBegin() {
        GrowingStacks x = new GrowingStacks();
        x.function(0, 3, 0b010);
        x.line(0, Programs.LOAD, 2, 1, 0);
        x.line(0, Programs.ADD, 2, 2, 0);
        x.line(0, Programs.RETURN, 2, 0, 0);
        x.function(1, 2, 0b01);
        x.line(1, Programs.RETURN, 1, 0, 0);
        int[] numbers = {Integer.MIN_VALUE, -1, 0, 1, Integer.MAX_VALUE};
        for (int a : numbers) {
            DUE.is("endless(0, " + a + ", 0)", x.endless(0, a, 0), a);
            DUE.is("POINTER first: endless(1, " + a + ", 0)", x.endless(1, a, 0), 0);
            DUE.is("endless(1, " + a + ", 1)", x.endless(1, a, 1), 1);
            DUE.is("endless(1, " + a + ", 2)", x.endless(1, a, 2), 4);
        }
    }

    /** "with SIDES that never lack anything": nine FOREIGN calls of 40 WORDS at once, on a SIDE of 10. */
    private static void sidesThatNeverLackAnything() {
        GrowingStacks x = new GrowingStacks();
        x.set(5, 10);
        for (int f = 0; f < 9; f++) {
            Programs.foreign(x, f, 1, 40, f + 1);
        }
        Programs.same(x, 9, 1);
        DUE.is("RESULT", x.endless(0, 12, 0), 12);
        DUE.is("STEPS", x.endless(0, 12, 1), 9 + 1 + 9);
        DUE.is("NEEDED", x.endless(0, 12, 2), 30);
        Programs.foreign(x, 9, 1, 40, 0);
        DUE.is("more than 2000 at once", x.endless(0, 12, 0), Programs.NO_WORD);
    }

    /** The same, while another TASK has the only SIDE. */
    private static void sidesOfOthersCountForNothing() {
        GrowingStacks x = new GrowingStacks();
        Programs.foreign(x, 0, 1, 40, 1);
        Programs.same(x, 1, 1);
        x.start(3, 0, 5, 0);
        x.step(3, 1);
        DUE.is("look(9)", x.look(9), 1);
        DUE.is("endless(0, 5, 0)", x.endless(0, 5, 0), 5);
        DUE.is("endless(0, 5, 1)", x.endless(0, 5, 1), 3);
        DUE.is("look(9)", x.look(9), 1);
        DUE.is("count(9)", x.count(9), 0);
    }

    /** "on an ENDLESS stack": FUNCTIONS of 10 WORDS, ten of them by 23 STEPS, 22 the last time. */
    private static void endlessBeyondTheMemory() {
        GrowingStacks x = new GrowingStacks();
        Programs.chain(x, 0, 9, 8);
        x.function(9, 8, 0);
        x.line(9, Programs.SET, 1, -1, 0);
        x.line(9, Programs.ADD, 0, 0, 1);
        x.line(9, Programs.JUMP, 0, 4, 0);
        x.line(9, Programs.RETURN, 0, 0, 0);
        x.line(9, Programs.CALL, 0, 0, 2);
        x.line(9, Programs.RETURN, 2, 0, 0);
        int[] times = {1, 20, 21, 40, 82, 83, 86, 87};
        for (int n : times) {
            DUE.is("endless(0, " + n + ", 0)", x.endless(0, n, 0), 0);
            DUE.is("endless(0, " + n + ", 1)", x.endless(0, n, 1), 23 * n - 1);
            DUE.is("endless(0, " + n + ", 2)", x.endless(0, n, 2), 100 * n);
        }
        for (int what = 0; what < 3; what++) {
            DUE.is("2023 STEPS: endless(0, 88, " + what + ")", x.endless(0, 88, what), Programs.NO_WORD);
        }
    }

    /** "NEEDED: the most WORDS that its FRAMES have at once": not what all calls need that it could make. */
    private static void mostWordsAtOnce() {
        GrowingStacks x = new GrowingStacks();
        x.set(3, 80);
        Programs.both(x, 0, 1, 1, 4);
        Programs.chain(x, 1, 3, 4);
        Programs.same(x, 4, 8);
        DUE.is("3 and 18, then 3 and 10: endless(0, 1, 2)", x.endless(0, 1, 2), 21);
        Programs.both(x, 0, 1, 4, 1);
        DUE.is("3 and 10, then 3 and 18: endless(0, 1, 2)", x.endless(0, 1, 2), 21);
        x.function(0, 1, 0);
        x.line(0, Programs.RETURN, 0, 0, 0);
        x.line(0, Programs.CALL, 1, 0, 0);
        DUE.is("deep(0)", x.deep(0), 21);
        DUE.is("no call is made: endless(0, 1, 2)", x.endless(0, 1, 2), 3);
    }

    /** Makes 2 n and 2 STEPS, and some more that are QUIET. */
    private static void counting(GrowingStacks x, int f, int more) {
        x.function(f, 2, 0);
        x.line(f, Programs.SET, 1, -1, 0);
        x.line(f, Programs.ADD, 0, 0, 1);
        x.line(f, Programs.JUMP, 0, 1, 0);
        for (int i = 0; i < more; i++) {
            x.line(f, Programs.QUIET, 0, 0, 0);
        }
        x.line(f, Programs.RETURN, 1, 0, 0);
    }

    /** "NONE - 999999999 if it is not DONE by 2000 STEPS". */
    private static void doneByTwoThousandSteps() {
        for (int more = 0; more <= 2; more++) {
            GrowingStacks x = new GrowingStacks();
            counting(x, 0, more);
            int[][] due = {{998, 1998 + more}, {999, 2000 + more}};
            for (int[] d : due) {
                boolean done = d[1] <= 2000;
                DUE.is(d[1] + " STEPS: RESULT", x.endless(0, d[0], 0), done ? -1 : Programs.NO_WORD);
                DUE.is(d[1] + " STEPS: STEPS", x.endless(0, d[0], 1), done ? d[1] : Programs.NO_WORD);
                DUE.is(d[1] + " STEPS: NEEDED", x.endless(0, d[0], 2), done ? 4 : Programs.NO_WORD);
            }
        }
    }

    /** The same of what is never DONE: round and round, and deeper and deeper. */
    private static void neverDone() {
        GrowingStacks x = new GrowingStacks();
        x.function(0, 1, 0);
        x.line(0, Programs.JUMP, 0, 0, 0);
        for (int size = 1; size <= 8; size += 7) {
            Programs.forever(x, size, size);
        }
        x.function(2, 8, 0);
        x.line(2, Programs.FOREIGN, 40, 2, 0);
        for (int what = 0; what < 3; what++) {
            DUE.is("endless(0, 1, " + what + ")", x.endless(0, 1, what), Programs.NO_WORD);
            DUE.is("endless(1, 1, " + what + ")", x.endless(1, 1, what), Programs.NO_WORD);
            DUE.is("endless(8, 1, " + what + ")", x.endless(8, 1, what), Programs.NO_WORD);
            DUE.is("endless(2, 1, " + what + ")", x.endless(2, 1, what), Programs.NO_WORD);
        }
        DUE.is("with 0 it is DONE: endless(0, 0, 1)", x.endless(0, 0, 1), 2);
    }

    /** "LAND of a TASK: how it would be behind n STEPS", as it is then indeed. */
    private static void landBehindSteps() {
        for (int mode = 0; mode < 2; mode++) {
            GrowingStacks x = new GrowingStacks();
            Programs.sum(x, 0);
            x.start(2, 0, 30, mode);
            x.image(true);
            int[] whats = {0, 4, 5, 7, 14};
            int[] steps = {1, 2, 4, 60, 119, 120, 121, 182, 183, 184, 199, 200};
            for (int n : steps) {
                int[] land = new int[5];
                for (int what = 0; what < 5; what++) {
                    land[what] = x.land(2, n, what);
                }
                x.step(2, n);
                for (int what = 0; what < 5; what++) {
                    DUE.is("land(2, " + n + ", " + what + ")", land[what], x.task(2, whats[what]));
                }
                DUE.is("DONE behind 183 STEPS", x.task(2, 0), n >= 183 ? 3 : 1);
                x.image(false);
            }
        }
    }

    /** The same: just this TASK makes STEPS. */
    private static void landLeavesTheOthers() {
        GrowingStacks x = new GrowingStacks();
        Programs.same(x, 0, 1);
        Programs.foreign(x, 1, 1, 5, 0);
        x.start(0, 1, 0, 0);
        x.step(0, 1);
        x.start(1, 1, 0, 0);
        DUE.is("the other one would give its SIDE back by its next STEP", x.land(1, 200, 0), 2);
        DUE.is("land(0, 200, 0)", x.land(0, 200, 0), 3);
        DUE.is("land(1, 200, 0)", x.land(1, 200, 0), 2);
        x.step(0, 1);
        DUE.is("land(1, 1, 0)", x.land(1, 1, 0), 1);
        DUE.is("land(1, 3, 0)", x.land(1, 3, 0), 3);
    }

    /** The same: in a memory of 2048 WORDS, with what others have, whatever was thought before. */
    private static void landInTheRealMemory() {
        GrowingStacks x = new GrowingStacks();
        x.set(0, 64);
        Programs.forever(x, 0, 8);
        Programs.sum(x, 1);
        x.start(0, 0, 0, 1);
        x.start(1, 1, 20, 0);
        x.step(0, 30 * 6 + 5);
        DUE.gaps(x);
        x.endless(1, 300, 0);
        DUE.is("behind endless(): land(1, 48, 0)", x.land(1, 48, 0), 4);
        x.alone(1, 300, 0, 0);
        DUE.is("behind alone(): land(1, 48, 0)", x.land(1, 48, 0), 4);
        DUE.is("land(1, 48, 3)", x.land(1, 48, 3), 0);
        DUE.is("land(0, 1, 0)", x.land(0, 1, 0), 4);
        x.image(true);
        x.step(1, 48);
        DUE.is("so it is", x.task(1, 0), 4);
        x.image(false);
        x.stop(0);
        x.endless(1, 300, 0);
        DUE.is("land(1, 48, 0)", x.land(1, 48, 0), 1);
        DUE.is("land(1, 48, 3)", x.land(1, 48, 3), 128);
        DUE.is("land(1, 48, 4)", x.land(1, 48, 4), 60);
    }

    /** The same: a SIDE that is too small is so in thought, too. */
    private static void landWithTheSidesThatThereAre() {
        GrowingStacks x = new GrowingStacks();
        x.set(5, 30);
        Programs.foreign(x, 0, 1, 30, 1);
        Programs.foreign(x, 1, 1, 1, -1);
        x.start(0, 0, 5, 0);
        DUE.is("land(0, 1, 0)", x.land(0, 1, 0), 1);
        DUE.is("land(0, 1, 1)", x.land(0, 1, 1), 2);
        DUE.is("land(0, 2, 0)", x.land(0, 2, 0), 4);
        DUE.is("land(0, 2, 1)", x.land(0, 2, 1), 0);
    }

    /** "ALONE: .. if there were no other TASKS": neither their PIECES nor their SIDES are there. */
    private static void aloneWithoutOthers() {
        GrowingStacks x = new GrowingStacks();
        Programs.forever(x, 0, 8);
        Programs.foreign(x, 1, 8, 40, 2);
        Programs.sum(x, 2);
        int[] before = new int[7];
        for (int what = 0; what < 7; what++) {
            before[what] = x.alone(1, 9, 0, what);
        }
        DUE.is("DONE", before[0], 3);
        x.start(0, 1, 9, 0);
        x.step(0, 1);
        x.start(1, 0, 0, 1);
        x.step(1, 120);
        DUE.is("SIDES that a TASK has", x.look(9), 1);
        for (int what = 0; what < 7; what++) {
            DUE.is("alone(1, 9, 0, " + what + ")", x.alone(1, 9, 0, what), before[what]);
        }
    }

    /** The same: as it is in an object where there is no other TASK indeed. */
    private static void aloneAsATaskThatIsAlone() {
        GrowingStacks thinking = new GrowingStacks();
        GrowingStacks going = new GrowingStacks();
        for (int i = 0; i < 2; i++) {
            GrowingStacks x = i == 0 ? thinking : going;
            x.set(0, 11);
            x.set(3, 20);
            for (int f = 0; f < 5; f++) {
                Programs.sum(x, f, 3 + f);
                Programs.both(x, 5 + f, 8 - f, f, (f + 1) % 5);
            }
            Programs.loop(x, 7, 3, 8);
            Programs.same(x, 8, 8);
        }
        int[] whats = {0, 3, 12, 14, 15};
        for (int f = 0; f < 10; f++) {
            for (int a = -1; a <= 9; a++) {
                for (int mode = 0; mode < 2; mode++) {
                    String call = "alone(" + f + ", " + a + ", " + mode + ", ";
                    going.start(0, f, a, mode);
                    int most = going.task(0, 7);
                    for (int i = 0; i < 2000 && going.step(0, 1) == 1; i++) {
                        most = Math.max(most, going.task(0, 7));
                    }
                    for (int what = 0; what < 5; what++) {
                        DUE.is(call + what + ")", thinking.alone(f, a, mode, what), going.task(0, whats[what]));
                    }
                    DUE.is(call + "5)", thinking.alone(f, a, mode, 5), most);
                    going.stop(0);
                }
            }
        }
    }

    /** The same: as it would be by FIRST, HOT, MERGE, RED and SIDE as they are told. */
    private static void aloneBySettings() {
        GrowingStacks x = new GrowingStacks();
        Programs.loop(x, 0, 8, 1);
        Programs.same(x, 1, 8);
        x.line(1, Programs.FOREIGN, 31, -1, 0);
        DUE.is("MERGE 1: CHECKED", x.alone(0, 3, 1, 2), 1);
        x.set(2, 0);
        DUE.is("MERGE 0: CHECKED", x.alone(0, 3, 1, 2), 4);
        DUE.is("HOT 1: SPLITS", x.alone(0, 3, 1, 4), 1);
        x.set(1, 0);
        DUE.is("HOT 0: SPLITS", x.alone(0, 3, 1, 4), 3);
        x.set(0, 20);
        DUE.is("FIRST 20: SPLITS", x.alone(0, 3, 1, 4), 0);
        DUE.is("FIRST 20: the most WORDS", x.alone(0, 3, 1, 5), 20);
        x.set(2, 1);
        x.set(3, 19);
        DUE.is("RED 19: CHECKED", x.alone(0, 3, 1, 2), 4);
        x.set(3, 20);
        DUE.is("RED 20: CHECKED", x.alone(0, 3, 1, 2), 1);
        Programs.foreign(x, 2, 1, 31, -1);
        x.set(5, 30);
        DUE.is("SIDE 30: state", x.alone(2, 3, 1, 0), 4);
        x.set(5, 31);
        DUE.is("SIDE 31: state", x.alone(2, 3, 1, 0), 3);
    }

    /** "2000 STEPS at most". */
    private static void aloneTwoThousandSteps() {
        for (int more = 0; more <= 2; more++) {
            for (int mode = 0; mode < 2; mode++) {
                GrowingStacks x = new GrowingStacks();
                counting(x, 0, more);
                DUE.is(2000 + more + " STEPS: state", x.alone(0, 999, mode, 0), more == 0 ? 3 : 1);
                DUE.is(2000 + more + " STEPS: STEPS", x.alone(0, 999, mode, 1), 2000);
                DUE.is(1998 + more + " STEPS: state", x.alone(0, 998, mode, 0), 3);
                DUE.is(1998 + more + " STEPS: STEPS", x.alone(0, 998, mode, 1), 1998 + more);
            }
        }
        // the call that needs 10 WORDS more comes by STEP 2000, or would come a STEP later
        for (int more = 0; more <= 1; more++) {
            GrowingStacks x = new GrowingStacks();
            x.function(0, 2, 0);
            x.line(0, Programs.SET, 1, -1, 0);
            x.line(0, Programs.ADD, 0, 0, 1);
            x.line(0, Programs.JUMP, 0, 1, 0);
            for (int i = 0; i < more; i++) {
                x.line(0, Programs.QUIET, 0, 0, 0);
            }
            x.line(0, Programs.CALL, 1, 0, 0);
            Programs.chain(x, 1, 8, 8);
            x.set(2, 0);
            DUE.is("CHECKED", x.alone(0, 999, 0, 2), more == 0 ? 2 : 1);
            DUE.is("the most WORDS", x.alone(0, 999, 0, 5), 16);
            DUE.is("least FIRST", x.alone(0, 999, 0, 6), more == 0 ? 16 : 8);
        }
    }

    /** "the most WORDS that its PIECES had behind a STEP (or as it began)": a SPARE, too; not on the way of a move. */
    private static void aloneBehindAStep() {
        GrowingStacks x = new GrowingStacks();
        x.set(2, 0);
        Programs.chain(x, 0, 2, 8);
        // COPIED 16, 32 (at once 16 and 32), LINKED three PIECES
        DUE.is("COPIED", x.alone(0, 5, 0, 5), 32);
        DUE.is("LINKED", x.alone(0, 5, 1, 5), 48);
        Programs.both(x, 3, 8, 4, 5);
        Programs.same(x, 4, 8);
        Programs.through(x, 5, 1, 4);
        // a SPARE that is the last PIECE, with 3 WORDS and no room for 10 any more but 13
        DUE.is("LINKED with a SPARE", x.alone(3, 5, 1, 5), 32);
        x.set(0, 8);
        DUE.is("as it began: COPIED", x.alone(4, 5, 0, 5), 16);
        DUE.is("as it began: LINKED", x.alone(4, 5, 1, 5), 18);
        DUE.is("as it began: STEPS", x.alone(4, 5, 1, 1), 1);
    }

    /** "the least FIRST of 8, 16, 32, 64 by which no call that is CHECKED would have it GROW (NONE)". */
    private static void aloneLeastFirst() {
        int[][] rows = {{3, 8}, {8, 8}, {9, 16}, {16, 16}, {17, 32}, {32, 32}, {33, 64}, {64, 64}, {65, -1}, {80, -1}};
        for (int[] r : rows) {
            for (int mode = 0; mode < 2; mode++) {
                int[] firsts = {8, 16, 33, 64};
                for (int first : firsts) {
                    GrowingStacks x = new GrowingStacks();
                    x.set(0, first);
                    x.set(3, 80);
                    Programs.deepOf(x, 0, r[0]);
                    DUE.is("COVERED, DEEP " + r[0], x.alone(0, 5, mode, 6), r[1]);
                    x.set(2, 0);
                    DUE.is("MERGE 0, NEEDED " + r[0], x.alone(0, 5, mode, 6), r[1]);
                }
            }
        }
    }

    /** The same: by what is used as the call comes, not by what was used before, or by a call that never comes. */
    private static void aloneLeastFirstByCalls() {
        for (int mode = 0; mode < 2; mode++) {
            GrowingStacks x = new GrowingStacks();
            x.set(2, 0);
            Programs.both(x, 0, 1, 1, 3);
            Programs.through(x, 1, 5, 2);
            Programs.same(x, 2, 4);
            Programs.same(x, 3, 8);
            DUE.is("3, 7 and 6, then 3 and 10: alone(0, 5, " + mode + ", 6)", x.alone(0, 5, mode, 6), 16);
            Programs.same(x, 2, 5);
            DUE.is("3, 7 and 7: alone(0, 5, " + mode + ", 6)", x.alone(0, 5, mode, 6), 32);
            Programs.same(x, 1, 5);
            x.line(1, Programs.CALL, 2, 0, 0);
            DUE.is("3 and 10: alone(0, 5, " + mode + ", 6)", x.alone(0, 5, mode, 6), 16);
        }
    }

    /** "(Nothing of all that stays.)" */
    private static void nothingStays() {
        GrowingStacks x = new GrowingStacks();
        Programs.sum(x, 0);
        Programs.foreign(x, 1, 3, 20, 0);
        x.start(0, 0, 9, 1);
        x.start(1, 1, 9, 0);
        x.round(20);
        x.image(true);
        x.round(20);
        String before = WholeTest.all(x);
        for (int what = -1; what <= 7; what++) {
            x.endless(0, 50, what);
            x.endless(1, 50, what);
            x.alone(0, 50, what & 1, what);
            x.alone(1, 300, what & 1, what);
            x.land(0, 200, what);
            x.land(1, 200, what);
            DUE.yes("what " + what + ": all is as it was", before.equals(WholeTest.all(x)));
        }
        x.round(100);
        x.image(false);
        x.round(20);
        DUE.yes("THE IMAGE is as it was", before.equals(WholeTest.all(x)));
    }

    /** "GAPS: WORDS that are not taken, side by side as far as they go; by places." */
    private static void gapsByPlaces() {
        GrowingStacks x = new GrowingStacks();
        Programs.forever(x, 0, 8);
        for (int t = 0; t < 6; t++) {
            x.start(t, 0, t, 0);
        }
        DUE.gaps(x, 96, 1952);
        x.stop(4);
        DUE.gaps(x, 64, 16, 96, 1952);
        x.stop(0);
        DUE.gaps(x, 0, 16, 64, 16, 96, 1952);
        x.stop(1);
        DUE.gaps(x, 0, 32, 64, 16, 96, 1952);
        x.stop(5);
        DUE.gaps(x, 0, 32, 64, 1984);
        x.stop(2);
        x.stop(3);
        DUE.gaps(x, 0, 2048);
        x.set(0, 64);
        x.start(0, 0, 0, 1);
        x.start(1, 0, 0, 1);
        x.step(0, 30 * 6 + 5);
        x.stop(0);
        // all but TASK 1 at 64: the greatest gap lies behind it, then before
        DUE.gaps(x, 0, 64, 128, 1920);
        DUE.is("look(8)", x.look(8), 1920);
        x.start(0, 0, 0, 1);
        x.step(0, 30 * 6 + 5);
        x.stop(1);
        DUE.gaps(x, 64, 64);
        x.start(2, 0, 0, 0);
        x.stop(0);
        DUE.gaps(x, 0, 64, 128, 1920);
    }

    /** "THE IMAGE: all that is and was told, as it was when it was taken". */
    private static void imageOfAll() {
        GrowingStacks x = new GrowingStacks();
        int[] settings = {9, 0, 0, 33, 2, 44};
        for (int what = 0; what < 6; what++) {
            x.set(what, settings[what]);
        }
        x.function(0, 3, 0b010);
        x.line(0, Programs.POINT, 1, 0, 0);
        x.line(0, Programs.CALL, 1, 1, 2);
        x.line(0, Programs.RETURN, 2, 0, 0);
        x.function(1, 3, 0b001);
        x.line(1, Programs.LOAD, 1, 0, 0);
        x.line(1, Programs.FOREIGN, 30, 2, 1);
        x.line(1, Programs.RETURN, 1, 0, 0);
        Programs.sum(x, 2);
        x.start(0, 0, 4, 0);
        x.start(1, 0, 5, 1);
        x.start(2, 0, 6, 1);
        x.round(8);
        DUE.is("WAITING", x.task(2, 0), 2);
        DUE.is("WORDS used on a SIDE", x.task(1, 9), 30);
        String before = WholeTest.all(x);
        x.image(true);
        x.round(5);
        String behind = WholeTest.all(x);
        for (int t = 0; t < 3; t++) {
            x.stop(t);
        }
        for (int what = 0; what < 6; what++) {
            x.set(what, what == 1 || what == 2 ? 1 : 3 * what + 1);
        }
        for (int f = 0; f < 10; f++) {
            x.function(f, 8, 255 - f);
            x.line(f, Programs.QUIET, 0, 0, 0);
        }
        x.start(3, 4, 1, 0);
        x.round(3);
        x.image(false);
        DUE.yes("all is as it was", before.equals(WholeTest.all(x)));
        x.round(5);
        DUE.yes("all goes on", behind.equals(WholeTest.all(x)));
        x.round(100);
        DUE.is("RESULT", x.task(0, 2), 10);
        DUE.is("RESULT", x.task(1, 2), 15);
        DUE.is("RESULT", x.task(2, 2), 21);
        DUE.is("never(0)", x.never(0), 0);
    }

    /** "gone back to it may be more than once"; and it may be taken again, of another object of its own. */
    private static void imageMoreThanOnce() {
        GrowingStacks x = new GrowingStacks();
        Programs.sum(x, 0);
        x.start(0, 0, 5, 0);
        x.image(true);
        for (int i = 0; i < 3; i++) {
            x.step(0, 10 + i);
            DUE.yes("image(false)", x.image(false));
            DUE.is("STEPS", x.task(0, 3), 0);
        }
        DUE.yes("twice one behind the other", x.image(false));
        x.step(0, 7);
        DUE.yes("image(true) again", x.image(true));
        x.step(0, 7);
        x.image(false);
        DUE.is("STEPS", x.task(0, 3), 7);
        GrowingStacks y = new GrowingStacks();
        DUE.no("another object has none", y.image(false));
    }

    /** The same of FUNCTIONS whose POINTERS, LINES and DEEP were others, and of one that was not told. */
    private static void imageOfEachKind() {
        GrowingStacks x = new GrowingStacks();
        x.function(0, 2, 0b10);
        x.line(0, Programs.SET, 0, 5, 0);
        x.line(0, Programs.RETURN, 0, 0, 0);
        x.image(true);
        x.function(0, 2, 0b01);
        x.line(0, Programs.SET, 1, 6, 0);
        x.line(0, Programs.RETURN, 1, 0, 0);
        x.line(0, Programs.CALL, 0, 0, 1);
        Programs.same(x, 1, 1);
        DUE.is("endless(0, 1, 0)", x.endless(0, 1, 0), 6);
        x.image(false);
        DUE.is("endless(0, 1, 0)", x.endless(0, 1, 0), 5);
        DUE.is("deep(0)", x.deep(0), 4);
        DUE.is("deep(1)", x.deep(1), -1);
        DUE.is("look(13)", x.look(13), 2);
        DUE.is("SLOT 1 is a POINTER", x.line(0, Programs.POINT, 1, 0, 0), 2);
        x.start(0, 0, 1, 0);
        DUE.slots(x, 0, 0, 1, -1);
        x.step(0, 9);
        DUE.log(x, 0, 9, 0, -1, -1);
        x.image(false);
        DUE.is("no line of THE LOG", x.look(14), 0);
        DUE.is("log(0, 0)", x.log(0, 0), -1);
        DUE.is("count(0)", x.count(0), 0);
        Programs.forever(x, 2, 8);
        x.start(0, 2, 0, 0);
        x.step(0, 1);
        x.image(true);
        DUE.log(x, 0, 0, 0, 16, 32);
        x.stop(0);
        x.start(1, 2, 0, 1);
        x.step(1, 100);
        DUE.is("another line is the latest", x.log(0, 0), 2);
        x.image(false);
        DUE.is("look(14)", x.look(14), 1);
        DUE.log(x, 0, 0, 0, 16, 32);
    }

    /** The same of all ten FUNCTIONS. */
    private static void imageOfTenFunctions() {
        GrowingStacks x = new GrowingStacks();
        for (int f = 0; f < 10; f++) {
            x.function(f, 3, f % 4 * 2);
            x.line(f, Programs.SET, 0, f, 0);
            x.line(f, Programs.CALL, f + 1 < 10 ? f + 1 : 0, 0, 0);
        }
        x.function(4, 3, 0);
        x.image(true);
        String before = WholeTest.all(x);
        for (int f = 0; f < 10; f++) {
            x.function(f, 8, 0);
            x.line(f, Programs.RETURN, 1, 0, 0);
        }
        x.image(false);
        DUE.yes("all is as it was", before.equals(WholeTest.all(x)));
        for (int f = 0; f < 10; f++) {
            int deep = f == 4 ? 5 : 5 * ((14 - f) % 10 + 1);
            DUE.is("deep(" + f + ")", x.deep(f), deep);
            x.start(0, f, 7, 0);
            DUE.slots(x, 0, 0, 7, f % 4 % 2 == 1 && f != 4 ? -1 : 0, f % 4 / 2 == 1 && f != 4 ? -1 : 0);
            x.step(0, 1);
            DUE.is("SLOT 0 of FUNCTION " + f, x.slot(0, 0, 0, 1), f == 4 ? Programs.NO_WORD : f);
            x.stop(0);
        }
    }

    /** A refused call: there is no image, so all stays as it is. */
    private static void noImage() {
        GrowingStacks x = new GrowingStacks();
        x.set(0, 20);
        Programs.sum(x, 0);
        x.start(0, 0, 5, 1);
        x.step(0, 20);
        String before = WholeTest.all(x);
        DUE.no("image(false)", x.image(false));
        DUE.yes("all is as it was", before.equals(WholeTest.all(x)));
        x.step(0, 200);
        DUE.is("RESULT", x.task(0, 2), 15);
    }
}
