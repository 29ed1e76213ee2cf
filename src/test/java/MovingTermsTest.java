/**
 * The Terms, ==== 2., second half: KEPT, QUIET, JOINED, COMPACT and THE LOG. Each sentence that names an edge stands
 * above the test that it has to itself.
 */
public final class MovingTermsTest {
    private static final Due DUE = new Due();

    public static void main(String[] args) {
        fourTimesKeptNoMoreThanThePiece();
        fourTimesKeptMoreThanThePiece();
        redMoreIfTheLastFrameIsCovered();
        halfNotLessThanFirst();
        quietMovesAsAbove();
        quietNothingWithoutAGap();
        quietGivesTheSpareBack();
        quietByALineOrTold();
        joinedOfFirstWordsDoubled();
        joinedWithRedMore();
        joinedFromPieceToPiece();
        joinedGivesAllOldPiecesBack();
        joinedIsCopiedFromThenOn();
        joinedNothingWithoutAGap();
        compactByPlaces();
        compactOverItself();
        compactOfASpareUsedAgain();
        compactOfWhatLiesTogether();
        logOfTheLatestForty();
        logPlaceThen();
        logOfMovesAndEnds();
        DUE.end();
    }

    /** FRAMES of so many WORDS, COPIED, up to n and 1 of them and down to one again; MERGE is 0. */
    private static GrowingStacks upAndDown(int first, int words, int n) {
        GrowingStacks x = new GrowingStacks();
        x.set(0, first);
        x.set(2, 0);
        Programs.sum(x, 0, words - 2);
        x.start(0, 0, n, 0);
        x.step(0, 6 * n + 1);
        DUE.is("FRAMES", x.task(0, 4), 1);
        return x;
    }

    /** "QUIET ..: COPIED: are four times KEPT no more than the PIECE has WORDS ..: it moves". */
    private static void fourTimesKeptNoMoreThanThePiece() {
        GrowingStacks x = upAndDown(8, 8, 3);
        DUE.piece(x, 0, 0, 24, 32, 8, 0);
        DUE.yes("4 times 8 are 32: quiet(0)", x.quiet(0));
        DUE.piece(x, 0, 0, 0, 16, 8, 0);
        DUE.log(x, 0, 1, 0, 0, 16);
        DUE.is("smaller", x.task(0, 16), 1);
        DUE.is("count(7)", x.count(7), 1);
        DUE.is("came over", x.task(0, 14), 8 + 16 + 8);
        DUE.no("4 times 8 are more than 16: quiet(0)", x.quiet(0));
        DUE.is("smaller", x.task(0, 16), 1);
        x.step(0, 9);
        DUE.is("RESULT", x.task(0, 2), 6);
    }

    /** The same with 9 WORDS: 36 are more than 32; with 7 they are not. */
    private static void fourTimesKeptMoreThanThePiece() {
        GrowingStacks x = upAndDown(8, 9, 1);
        DUE.piece(x, 0, 0, 24, 32, 9, 0);
        int lines = x.look(14);
        DUE.no("quiet(0)", x.quiet(0));
        DUE.piece(x, 0, 0, 24, 32, 9, 0);
        DUE.is("nothing is told", x.look(14), lines);
        GrowingStacks y = upAndDown(8, 7, 2);
        DUE.is("WORDS", y.task(0, 7), 32);
        DUE.yes("quiet(0)", y.quiet(0));
    }

    /** "KEPT of a STACK: the WORDS that are used, and RED more, if its last FRAME is COVERED." */
    private static void redMoreIfTheLastFrameIsCovered() {
        for (int words = 3; words <= 5; words++) {
            GrowingStacks x = new GrowingStacks();
            x.set(0, 8);
            x.set(3, 10);
            Programs.both(x, 0, 1, 1, 2);
            Programs.sum(x, 1);
            Programs.same(x, 2, words - 2);
            x.start(0, 0, 6, 0);
            x.step(0, 1 + 39 + 1);
            DUE.is("WORDS", x.task(0, 7), 64);
            DUE.is("used", x.task(0, 5), 3 + words);
            DUE.is("COVERED", x.frame(0, 1, 3), 1);
            DUE.is("4 times (" + (3 + words) + " and 10): quiet(0)", x.quiet(0), words == 3);
            x.step(0, 1);
            DUE.is("COVERED", x.frame(0, 0, 3), 0);
            DUE.yes("4 times 3: quiet(0)", x.quiet(0));
        }
    }

    /** "and would the half not be less than FIRST". */
    private static void halfNotLessThanFirst() {
        int[] firsts = {8, 16, 17};
        for (int first : firsts) {
            GrowingStacks x = new GrowingStacks();
            x.set(0, first);
            x.set(2, 0);
            Programs.through(x, 0, 1, 1);
            Programs.sum(x, 1);
            x.start(0, 0, first == 8 ? 1 : 2, 0);
            DUE.no("FIRST itself is not made smaller", x.quiet(0));
            x.step(0, first == 8 ? 10 : 16);
            DUE.is("used", x.task(0, 5), 3);
            DUE.is("WORDS", x.task(0, 7), 2 * first);
            DUE.yes("the half is FIRST: quiet(0)", x.quiet(0));
            DUE.is("WORDS", x.task(0, 7), first);
            DUE.no("the half is less: quiet(0)", x.quiet(0));
            DUE.is("WORDS", x.task(0, 7), first);
        }
    }

    /** "it moves, as above, into a PIECE of half as many": each BASE and each POINTER (but NONE), no NUMBER. */
    private static void quietMovesAsAbove() {
        GrowingStacks x = new GrowingStacks();
        x.set(0, 8);
        x.set(2, 0);
        x.function(0, 4, 0b0110);
        x.line(0, Programs.SET, 3, 27, 0);
        x.line(0, Programs.POINT, 1, 3, 0);
        x.line(0, Programs.CALL, 1, 1, 0);
        x.function(1, 2, 1);
        x.line(1, Programs.CALL, 2, 1, 1);
        x.line(1, Programs.QUIET, 0, 0, 0);
        Programs.chain(x, 2, 6, 8);
        x.start(0, 0, 26, 0);
        x.step(0, 3 + 10);
        // 6 and 4 WORDS are used, up to 60 were: 64 WORDS at 56
        DUE.piece(x, 0, 0, 56, 64, 10, 0);
        DUE.slots(x, 0, 0, 26, 61, -1, 27);
        x.step(0, 1);
        DUE.piece(x, 0, 0, 0, 32, 10, 0);
        DUE.slots(x, 0, 0, 26, 5, -1, 27);
        DUE.slots(x, 0, 1, 5, 0);
        DUE.is("BASE of FRAME 0", x.frame(0, 0, 6), -1);
        DUE.is("BASE of FRAME 1", x.frame(0, 1, 6), 0);
        DUE.is("it points to FRAME", x.slot(0, 1, 0, 2), 0);
        DUE.is("it points to SLOT", x.slot(0, 1, 0, 3), 3);
        DUE.is("never(1)", x.never(1), 0);
    }

    /** "(nothing, if there is no gap)": the other TASK has all but 64 WORDS of those that are not its own. */
    private static void quietNothingWithoutAGap() {
        GrowingStacks x = new GrowingStacks();
        x.set(0, 64);
        x.set(2, 0);
        Programs.sum(x, 0);
        Programs.forever(x, 1, 8);
        x.start(0, 0, 15, 0);
        x.step(0, 60 + 3 + 2 * 13);
        DUE.piece(x, 0, 0, 64, 128, 10, 0);
        x.start(1, 1, 0, 1);
        x.step(1, 28 * 6 + 5);
        DUE.gaps(x, 1984, 64);
        x.image(true);
        DUE.yes("a gap of 64: quiet(0)", x.quiet(0));
        DUE.piece(x, 0, 0, 1984, 64, 10, 0);
        x.image(false);
        x.step(1, 6);
        DUE.gaps(x);
        String before = WholeTest.all(x);
        DUE.no("no gap: quiet(0)", x.quiet(0));
        DUE.yes("nothing", before.equals(WholeTest.all(x)));
    }

    /** A LINKED TASK with two PIECES and a SPARE; POINTERS to NUMBERS of both of its FRAMES. */
    private static GrowingStacks linkedWithSpare() {
        GrowingStacks x = new GrowingStacks();
        x.set(2, 0);
        x.function(0, 8, 0b00000110);
        x.line(0, Programs.SET, 7, 20, 0);
        x.line(0, Programs.POINT, 1, 7, 0);
        x.line(0, Programs.CALL, 1, 1, 0);
        x.line(0, Programs.RETURN, 7, 0, 0);
        x.function(1, 8, 0b00000111);
        x.line(1, Programs.POINT, 1, 3, 0);
        x.line(1, Programs.CALL, 2, 3, 3);
        x.line(1, Programs.SET, 3, 18, 0);
        x.line(1, Programs.STORE, 0, 3, 0);
        Programs.same(x, 2, 8);
        x.start(0, 0, 3, 1);
        x.step(0, 6);
        DUE.piece(x, 0, 0, 0, 16, 10, 0);
        DUE.piece(x, 0, 1, 16, 16, 10, 0);
        DUE.piece(x, 0, 2, 32, 16, 0, 1);
        return x;
    }

    /** "LINKED: the SPARE is given back." */
    private static void quietGivesTheSpareBack() {
        GrowingStacks x = linkedWithSpare();
        int lines = x.look(14);
        DUE.yes("quiet(0)", x.quiet(0));
        DUE.log(x, 0, 5, 0, 32, 16);
        DUE.is("lines of THE LOG", x.look(14), lines + 1);
        DUE.is("PIECES", x.task(0, 6), 2);
        DUE.gaps(x, 32, 2016);
        DUE.no("there is none any more: quiet(0)", x.quiet(0));
        DUE.is("lines of THE LOG", x.look(14), lines + 1);
        DUE.is("smaller", x.task(0, 16), 0);
    }

    /** "QUIET (by a LINE, or told)". */
    private static void quietByALineOrTold() {
        for (int mode = 0; mode < 2; mode++) {
            GrowingStacks told = new GrowingStacks();
            GrowingStacks line = new GrowingStacks();
            for (int i = 0; i < 2; i++) {
                GrowingStacks x = i == 0 ? told : line;
                x.set(0, 8);
                x.set(2, 0);
                x.function(0, 2, 0);
                x.line(0, Programs.CALL, 1, 0, 0);
                x.line(0, i == 0 ? Programs.SET : Programs.QUIET, 1, 0, 0);
                Programs.sum(x, 1);
                x.start(0, 0, 9, mode);
                x.step(0, 1 + 57);
            }
            DUE.is("MODE " + mode + ": quiet(0)", told.quiet(0), true);
            told.step(0, 1);
            line.step(0, 1);
            DUE.is("MODE " + mode + ": WORDS", line.task(0, 7), mode == 0 ? 32 : 8);
            DUE.yes("MODE " + mode + ": the one is as the other", WholeTest.all(told).equals(WholeTest.all(line)));
        }
    }

    /** "JOINED ..: a PIECE is taken of FIRST WORDS, doubled as often as need be for KEPT". */
    private static void joinedOfFirstWordsDoubled() {
        // SIZES of two FRAMES, FIRST, what is taken then
        int[][] rows = {{6, 6, 16, 16}, {7, 6, 16, 32}, {8, 4, 16, 16}, {8, 8, 10, 20}, {8, 8, 20, 20}, {8, 8, 19, 38},
            {8, 8, 9, 36}, {8, 8, 8, 32}, {1, 1, 8, 8}, {1, 1, 64, 64}};
        for (int[] r : rows) {
            GrowingStacks x = new GrowingStacks();
            x.set(0, r[2]);
            x.set(2, 0);
            Programs.through(x, 0, r[0], 1);
            Programs.same(x, 1, r[1]);
            x.start(0, 0, 5, 1);
            x.step(0, 1);
            int taken = x.look(6);
            int used = r[0] + r[1] + 4;
            DUE.yes("join(0)", x.join(0));
            DUE.piece(x, 0, 0, taken, r[3], used, 0);
            DUE.log(x, 0, 6, 0, taken, r[3]);
            DUE.is("came over", x.task(0, 14), used);
            DUE.is("count(5)", x.count(5), used);
            x.step(0, 2);
            DUE.is("RESULT", x.task(0, 2), 5);
        }
    }

    /** The same: KEPT has RED more, if the last FRAME is COVERED. */
    private static void joinedWithRedMore() {
        int[][] rows = {{4, 10, 16}, {5, 10, 32}, {8, 22, 32}, {8, 23, 64}, {8, 80, 128}};
        for (int[] r : rows) {
            GrowingStacks x = new GrowingStacks();
            x.set(3, r[1]);
            Programs.same(x, 0, r[0]);
            x.start(0, 0, 5, 1);
            DUE.is("COVERED", x.frame(0, 0, 3), 1);
            DUE.yes("join(0)", x.join(0));
            DUE.piece(x, 0, 0, 16, r[2], r[0] + 2, 0);
        }
    }

    /** "there all FRAMES come one behind the other, each BASE and each POINTER (but NONE) as far as its WORD". */
    private static void joinedFromPieceToPiece() {
        GrowingStacks x = linkedWithSpare();
        DUE.slots(x, 0, 0, 3, 9, -1, 0, 0, 0, 0, 20);
        DUE.slots(x, 0, 1, 9, 21, -1, 0, 0, 0, 0, 0);
        DUE.is("the most WORDS used at once", x.task(0, 18), 30);
        DUE.yes("join(0)", x.join(0));
        DUE.piece(x, 0, 0, 48, 32, 20, 0);
        DUE.is("came over what is used", x.task(0, 14), 20);
        DUE.is("count(5)", x.count(5), 20);
        DUE.slots(x, 0, 0, 3, 57, -1, 0, 0, 0, 0, 20);
        DUE.slots(x, 0, 1, 57, 63, -1, 0, 0, 0, 0, 0);
        int[][] frames = {{0, 48, 0, 0, 3, 0, -1, 0}, {1, 58, 0, 0, 2, 0, 48, 3}};
        for (int i = 0; i < 2; i++) {
            for (int what = 0; what < 8; what++) {
                DUE.is("frame(0, " + i + ", " + what + ")", x.frame(0, i, what), frames[i][what]);
            }
        }
        DUE.is("it points to FRAME", x.slot(0, 1, 1, 2), 1);
        DUE.is("it points to SLOT", x.slot(0, 1, 1, 3), 3);
        x.step(0, 9);
        DUE.is("RESULT", x.task(0, 2), 18);
    }

    /** "all old PIECES are given back": the SPARE, too, and nothing but JOINED is told. */
    private static void joinedGivesAllOldPiecesBack() {
        GrowingStacks x = linkedWithSpare();
        int lines = x.look(14);
        x.join(0);
        DUE.is("PIECES", x.task(0, 6), 1);
        DUE.is("WORDS", x.task(0, 7), 32);
        DUE.is("look(6)", x.look(6), 32);
        DUE.is("look(7)", x.look(7), 1);
        DUE.piece(x, 0, 1, -1, -1, -1, -1);
        DUE.gaps(x, 0, 48, 80, 1968);
        DUE.is("lines of THE LOG", x.look(14), lines + 1);
        DUE.log(x, 0, 6, 0, 48, 32);
        x.step(0, 9);
        DUE.is("DONE", x.task(0, 0), 3);
        DUE.gaps(x, 0, 2048);
    }

    /** "the STACK is COPIED from then on". */
    private static void joinedIsCopiedFromThenOn() {
        GrowingStacks x = new GrowingStacks();
        Programs.forever(x, 0, 8);
        x.start(0, 0, 5, 1);
        x.step(0, 1);
        DUE.yes("join(0)", x.join(0));
        DUE.is("MODE", x.task(0, 1), 0);
        DUE.no("it is not LINKED any more: join(0)", x.join(0));
        x.step(0, 2);
        DUE.piece(x, 0, 0, 64, 64, 40, 0);
        DUE.is("moved into a greater one", x.task(0, 13), 1);
        DUE.is("SPLITS", x.task(0, 15), 1);
        DUE.is("came over", x.task(0, 14), 20 + 30);
        x.stop(0);
        x.start(0, 0, 5, 1);
        DUE.is("another TASK begins as it is told", x.task(0, 1), 1);
    }

    /** "(nothing, if there is no gap)": 64 WORDS are there for it, or none. */
    private static void joinedNothingWithoutAGap() {
        GrowingStacks x = new GrowingStacks();
        x.set(0, 64);
        Programs.forever(x, 0, 8);
        x.start(0, 0, 5, 1);
        x.start(1, 0, 5, 1);
        x.step(1, 29 * 6 + 5);
        DUE.gaps(x, 1984, 64);
        x.image(true);
        DUE.yes("join(0)", x.join(0));
        DUE.piece(x, 0, 0, 1984, 64, 10, 0);
        x.image(false);
        x.step(1, 6);
        DUE.gaps(x);
        String before = WholeTest.all(x);
        DUE.no("join(0)", x.join(0));
        DUE.yes("nothing", before.equals(WholeTest.all(x)));
        DUE.is("it is LINKED still", x.task(0, 1), 1);
    }

    /** "COMPACT: all PIECES of all TASKS (a SPARE, too), by places, come one behind the other from place 0 on". */
    private static void compactByPlaces() {
        GrowingStacks x = linkedWithSpare();
        x.start(5, 2, 6, 0);
        x.start(1, 2, 7, 0);
        x.start(2, 2, 8, 0);
        x.stop(5);
        x.quiet(0);
        x.step(0, 9);
        // what is left: TASK 1 at 64, TASK 2 at 80
        DUE.gaps(x, 0, 64, 96, 1952);
        x.start(3, 0, 3, 1);
        x.step(3, 6);
        // of TASK 3: 0, 16 and the SPARE at 32; then a gap
        DUE.gaps(x, 48, 16, 96, 1952);
        int lines = x.look(14);
        DUE.is("compact()", x.compact(), 2);
        DUE.is("two lines more", x.look(14), lines + 2);
        DUE.log(x, 1, 7, 1, 48, 16);
        DUE.log(x, 0, 7, 2, 64, 16);
        DUE.piece(x, 3, 2, 32, 16, 0, 1);
        DUE.piece(x, 1, 0, 48, 16, 10, 0);
        DUE.slots(x, 1, 0, 7, 0, 0, 0, 0, 0, 0, 0);
        DUE.slots(x, 2, 0, 8, 0, 0, 0, 0, 0, 0, 0);
        DUE.gaps(x, 80, 1968);
        x.start(0, 2, 1, 0);
        x.stop(1);
        x.stop(0);
        // 0, 16, 32 stay, TASK 2 comes from 64 to 48; then all without TASK 2
        DUE.is("compact()", x.compact(), 1);
        DUE.log(x, 0, 7, 2, 48, 16);
        DUE.is("WORDS that came over by moving", x.task(2, 14), 0);
        DUE.is("count(5)", x.count(5), 0);
    }

    /** The same, as PIECES lie over where they lay: each WORD, BASE and POINTER by 8 places. */
    private static void compactOverItself() {
        GrowingStacks x = new GrowingStacks();
        x.set(0, 8);
        x.set(3, 60);
        Programs.empty(x, 9, 1);
        x.function(0, 8, 0b00000010);
        x.line(0, Programs.POINT, 1, 0, 0);
        x.line(0, Programs.CALL, 1, 1, 7);
        for (int f = 1; f <= 5; f++) {
            x.function(f, 8, 0b00000001);
            x.line(f, Programs.SET, 7, 70 + f, 0);
            x.line(f, Programs.CALL, f + 1, 0, 6);
        }
        x.function(6, 8, 0b00000001);
        x.start(1, 9, 0, 0);
        x.start(0, 0, 33, 1);
        x.step(0, 12);
        DUE.piece(x, 0, 0, 8, 8, 0, 0);
        DUE.piece(x, 0, 1, 16, 10, 10, 0);
        DUE.piece(x, 0, 2, 26, 60, 60, 0);
        x.stop(1);
        DUE.is("compact()", x.compact(), 3);
        DUE.piece(x, 0, 0, 0, 8, 0, 0);
        DUE.piece(x, 0, 1, 8, 10, 10, 0);
        DUE.piece(x, 0, 2, 18, 60, 60, 0);
        DUE.log(x, 2, 7, 0, 0, 8);
        DUE.log(x, 1, 7, 0, 8, 10);
        DUE.log(x, 0, 7, 0, 18, 60);
        DUE.slots(x, 0, 0, 33, 10, 0, 0, 0, 0, 0, 0);
        for (int i = 1; i <= 6; i++) {
            DUE.slots(x, 0, i, 10, 0, 0, 0, 0, 0, 0, i < 6 ? 70 + i : 0);
            DUE.is("place of FRAME " + i, x.frame(0, i, 1), 8 + 10 * i);
            DUE.is("BASE of FRAME " + i, x.frame(0, i, 6), 8 + 10 * (i - 1));
        }
        DUE.is("never(1)", x.never(1), 0);
        DUE.is("never(2)", x.never(2), 0);
    }

    /** The same of a SPARE that is the last PIECE again, and of one that is SPARE again. */
    private static void compactOfASpareUsedAgain() {
        GrowingStacks x = new GrowingStacks();
        x.set(2, 0);
        Programs.loop(x, 0, 8, 1);
        Programs.same(x, 1, 8);
        x.start(0, 0, 5, 0);
        x.start(1, 0, 5, 0);
        x.start(2, 0, 5, 0);
        x.start(4, 0, 5, 1);
        x.step(4, 6);
        DUE.is("the SPARE is the last one", x.task(4, 17), 1);
        DUE.is("never(2)", x.never(2), 0);
        x.stop(1);
        DUE.is("compact()", x.compact(), 3);
        DUE.log(x, 0, 7, 4, 48, 16);
        DUE.log(x, 1, 7, 4, 32, 16);
        DUE.log(x, 2, 7, 2, 16, 16);
        DUE.is("PIECE of FRAME 1", x.frame(4, 1, 2), 1);
        x.step(4, 1);
        DUE.piece(x, 4, 1, 48, 16, 0, 1);
        x.stop(2);
        DUE.is("compact()", x.compact(), 2);
        DUE.log(x, 0, 7, 4, 32, 16);
        DUE.log(x, 1, 7, 4, 16, 16);
        DUE.is("never(1)", x.never(1), 0);
        DUE.is("never(2)", x.never(2), 0);
        x.step(4, 200);
        DUE.is("RESULT", x.task(4, 2), 1);
    }

    /** The same of nothing, of what begins at place 0 and lies together, and twice. */
    private static void compactOfWhatLiesTogether() {
        GrowingStacks x = new GrowingStacks();
        DUE.is("of nothing", x.compact(), 0);
        Programs.forever(x, 0, 8);
        for (int t = 0; t < 6; t++) {
            x.start(t, 0, t, t % 2);
        }
        String before = WholeTest.all(x);
        DUE.is("of what lies together", x.compact(), 0);
        DUE.yes("nothing is moved or told", before.equals(WholeTest.all(x)));
        x.stop(0);
        DUE.is("of all that lies behind a gap", x.compact(), 5);
        DUE.is("and again", x.compact(), 0);
        for (int t = 1; t < 6; t++) {
            DUE.is("piece(" + t + ", 0, 0)", x.piece(t, 0, 0), 16 * (t - 1));
            DUE.log(x, 5 - t, 7, t, 16 * (t - 1), 16);
        }
        x.stop(5);
        DUE.is("a gap behind all is none between", x.compact(), 0);
    }

    /** "THE LOG (the latest 40)". */
    private static void logOfTheLatestForty() {
        GrowingStacks x = new GrowingStacks();
        DUE.log(x, 0, -1, -1, -1, -1);
        Programs.same(x, 0, 1);
        for (int lines = 1; lines <= 42; lines++) {
            x.start(lines % 6, 0, 0, 0);
            x.step(lines % 6, 1);
            DUE.is("look(14)", x.look(14), lines);
            DUE.log(x, 0, 9, lines % 6, -1, -1);
            int oldest = Math.min(lines, 40) - 1;
            DUE.is("the oldest line that is kept", x.log(oldest, 1), (lines - oldest) % 6);
            DUE.is("behind it", x.log(oldest + 1, 1), -1);
        }
    }

    /** "the place of a PIECE (then)". */
    private static void logPlaceThen() {
        GrowingStacks x = new GrowingStacks();
        Programs.forever(x, 0, 8);
        x.start(1, 0, 5, 0);
        x.start(0, 0, 5, 1);
        x.step(0, 1);
        DUE.log(x, 0, 2, 0, 32, 16);
        x.stop(1);
        x.compact();
        DUE.log(x, 0, 7, 0, 16, 16);
        DUE.log(x, 1, 7, 0, 0, 16);
        DUE.log(x, 2, 2, 0, 32, 16);
    }

    /** "5 given back (..; not by DONE, OUT, stop(), 0, 1, 6) .. 8 OUT, 9 DONE (8, 9: NONE, NONE)": one line each. */
    private static void logOfMovesAndEnds() {
        GrowingStacks x = new GrowingStacks();
        x.set(0, 8);
        x.set(2, 0);
        Programs.sum(x, 0, 6);
        Programs.forever(x, 1, 8);
        x.start(0, 0, 1, 0);
        x.step(0, 4);
        DUE.log(x, 0, 0, 0, 8, 16);
        DUE.is("by 0: lines", x.look(14), 1);
        x.step(0, 9);
        DUE.log(x, 0, 9, 0, -1, -1);
        DUE.is("by DONE: lines", x.look(14), 2);
        x.start(0, 0, 3, 0);
        x.step(0, 19);
        DUE.is("by 0, twice: lines", x.look(14), 4);
        x.quiet(0);
        DUE.log(x, 0, 1, 0, 0, 16);
        DUE.is("by 1: lines", x.look(14), 5);
        x.stop(0);
        DUE.is("by stop(): lines", x.look(14), 5);
        x.start(0, 1, 0, 1);
        x.step(0, 3);
        DUE.is("by 2, four times: lines", x.look(14), 9);
        x.join(0);
        DUE.is("by 6: lines", x.look(14), 10);
        x.start(1, 1, 0, 1);
        int lines = x.look(14);
        x.step(0, 200);
        DUE.is("OUT", x.task(0, 0), 4);
        DUE.log(x, 0, 8, 0, -1, -1);
        DUE.is("by OUT: one line more than those of moves", x.look(14), lines + x.task(0, 13) + 1);
        x.stop(1);
        DUE.is("by stop(): lines", x.look(14), lines + x.task(0, 13) + 1);
    }
}
