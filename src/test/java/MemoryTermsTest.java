/**
 * The Terms, ==== 2.: THE MEMORY, TASKS and their STACKS. Each sentence that names an edge stands above the test that
 * it has to itself.
 */
public final class MemoryTermsTest {
    private static final Due DUE = new Due();

    public static void main(String[] args) {
        memoryOf2048Words();
        memoryFullOfSmallPieces();
        gapOfOneWord();
        firstGapThatHasSoMany();
        gapThatIsOneWordTooSmall();
        fromItsBeginningOn();
        sixTasks();
        statesOfATask();
        beginsWithOnePiece();
        framesOneBehindTheOther();
        deepGreatest();
        deepOfNothing();
        deepEndless();
        deepOfTen();
        needUpToRed();
        needWithoutMerge();
        calledOutOfCovered();
        roomToTheEndOfThePiece();
        roomOfTheLastPieceAlone();
        twiceOrFourTimes();
        enoughForWhatIsUsedAndNeed();
        enoughForWhatIsUsedNow();
        allWordsComeAlong();
        oldPieceIsGivenBackThen();
        spareHasNeedWords();
        spareAmongOthers();
        spareIsGivenBackFirst();
        firstOrNeedTheGreater();
        outWithoutAGap();
        outThoughTheSpareIsGivenBack();
        notTheFirstOneOfItsPiece();
        hotAndCold();
        elderSpare();
        doneGivesAllBack();
        outGivesAllBack();
        DUE.end();
    }

    /** "THE MEMORY: 2048 WORDS, by places from 0". */
    private static void memoryOf2048Words() {
        GrowingStacks x = new GrowingStacks();
        DUE.gaps(x, 0, 2048);
        DUE.is("look(6)", x.look(6), 0);
        DUE.is("look(7)", x.look(7), 0);
        DUE.is("look(8)", x.look(8), 2048);
        x.set(0, 64);
        Programs.forever(x, 0, 8);
        x.start(0, 0, 0, 1);
        DUE.is("the first PIECE lies at", x.piece(0, 0, 0), 0);
        x.step(0, 191);
        DUE.is("the last PIECE lies at", x.piece(0, 31, 0), 1984);
        DUE.gaps(x);
        DUE.is("look(6)", x.look(6), 2048);
        DUE.is("look(8)", x.look(8), 0);
        DUE.is("WORD 2049 there is not", x.step(0, 2), 1);
        DUE.is("OUT", x.task(0, 0), 4);
        DUE.gaps(x, 0, 2048);
    }

    /** The same, with as many PIECES as there can be: 256, each full to its last WORD. */
    private static void memoryFullOfSmallPieces() {
        GrowingStacks x = new GrowingStacks();
        x.set(0, 8);
        Programs.forever(x, 0, 6);
        x.start(3, 0, 7, 1);
        x.step(3, 200);
        DUE.is("step(3, 55)", x.step(3, 55), 55);
        DUE.is("look(6)", x.look(6), 2048);
        DUE.is("look(7)", x.look(7), 256);
        DUE.is("look(8)", x.look(8), 0);
        DUE.gaps(x);
        DUE.is("PIECES", x.task(3, 6), 256);
        DUE.is("WORDS", x.task(3, 7), 2048);
        DUE.is("WORDS used", x.task(3, 5), 2048);
        for (int i = 0; i < 256; i += 51) {
            DUE.piece(x, 3, i, 8 * i, 8, 8, 0);
            DUE.is("place of FRAME " + i, x.frame(3, i, 1), 8 * i);
            DUE.is("PIECE of FRAME " + i, x.frame(3, i, 2), i);
            DUE.slots(x, 3, i, 7, 0, 0, 0, 0, 0);
        }
        DUE.is("piece(3, 256, 0)", x.piece(3, 256, 0), -1);
        DUE.is("never(1)", x.never(1), 0);
        DUE.is("never(2)", x.never(2), 0);
        DUE.no("start(0, 0, 0, 0)", x.start(0, 0, 0, 0));
        DUE.no("join(3)", x.join(3));
        DUE.is("compact()", x.compact(), 0);
        DUE.is("land(3, 1, 0)", x.land(3, 1, 0), 4);
        x.image(true);
        x.step(3, 1);
        DUE.is("OUT", x.task(3, 0), 4);
        DUE.gaps(x, 0, 2048);
        x.image(false);
        DUE.is("PIECES", x.task(3, 6), 256);
        DUE.yes("stop(3)", x.stop(3));
        DUE.is("look(7)", x.look(7), 0);
    }

    /** "GAPS: WORDS that are not taken, side by side as far as they go": 89 PIECES of 23 WORDS leave one. */
    private static void gapOfOneWord() {
        GrowingStacks x = new GrowingStacks();
        x.set(0, 23);
        Programs.forever(x, 0, 8);
        x.start(0, 0, 0, 1);
        x.step(0, 177);
        DUE.is("PIECES", x.task(0, 6), 89);
        DUE.gaps(x, 2047, 1);
        DUE.is("look(8)", x.look(8), 1);
        DUE.is("look(6)", x.look(6), 2047);
        x.step(0, 1);
        DUE.is("OUT", x.task(0, 0), 4);
    }

    /** FUNCTION 0 of 10 WORDS calls 1, whose DEEP is so many WORDS and RED, too: that is COVERED, FUNCTION 0 is not. */
    private static GrowingStacks caller(int first, int deep) {
        GrowingStacks x = new GrowingStacks();
        x.set(0, first);
        x.set(3, deep);
        Programs.through(x, 0, 8, 1);
        Programs.deepOf(x, 1, deep);
        return x;
    }

    /** "PIECES of it are taken: the first gap that has so many WORDS": one that has just so many is one. */
    private static void firstGapThatHasSoMany() {
        GrowingStacks x = caller(16, 16);
        for (int t = 0; t < 4; t++) {
            x.start(t, 0, 5, 1);
        }
        x.stop(1);
        DUE.gaps(x, 16, 16, 64, 1984);
        x.step(3, 1);
        DUE.piece(x, 3, 1, 16, 16, 10, 0);
        DUE.gaps(x, 64, 1984);
        x.stop(0);
        x.stop(2);
        DUE.gaps(x, 0, 16, 32, 16, 64, 1984);
        x.start(5, 0, 5, 0);
        DUE.is("the first one of two", x.piece(5, 0, 0), 0);
    }

    /** The same: one that has a WORD less is none. */
    private static void gapThatIsOneWordTooSmall() {
        GrowingStacks x = caller(16, 17);
        for (int t = 0; t < 4; t++) {
            x.start(t, 0, 5, 1);
        }
        x.stop(1);
        x.step(3, 1);
        DUE.piece(x, 3, 1, 64, 17, 10, 0);
        DUE.gaps(x, 16, 16, 81, 1967);
        DUE.is("look(8)", x.look(8), 1967);
    }

    /** "from its beginning on": what is left of the gap lies behind the PIECE. */
    private static void fromItsBeginningOn() {
        GrowingStacks x = caller(16, 17);
        for (int t = 0; t < 5; t++) {
            x.start(t, 0, 5, 1);
        }
        x.stop(1);
        x.stop(2);
        DUE.gaps(x, 16, 32, 80, 1968);
        x.step(4, 1);
        DUE.piece(x, 4, 1, 16, 17, 10, 0);
        DUE.gaps(x, 33, 15, 80, 1968);
        x.start(1, 0, 5, 0);
        DUE.is("15 WORDS are too few", x.piece(1, 0, 0), 80);
    }

    /** "TASKS 0 .. 5". */
    private static void sixTasks() {
        GrowingStacks x = new GrowingStacks();
        Programs.forever(x, 0, 1);
        int[] none = {Integer.MIN_VALUE, -1, 6, 7, Integer.MAX_VALUE};
        for (int t : none) {
            DUE.no("start(" + t + ", 0, 0, 0)", x.start(t, 0, 0, 0));
            DUE.is("step(" + t + ", 1)", x.step(t, 1), -1);
            DUE.is("task(" + t + ", 0)", x.task(t, 0), -1);
            DUE.no("stop(" + t + ")", x.stop(t));
        }
        for (int t = 0; t <= 5; t++) {
            DUE.yes("start(" + t + ", 0, 0, 0)", x.start(t, 0, 0, t % 2));
            DUE.is("task(" + t + ", 0)", x.task(t, 0), 1);
            DUE.is("piece(" + t + ", 0, 0)", x.piece(t, 0, 0), 16 * t);
        }
        DUE.is("look(10)", x.look(10), 6);
        DUE.is("round(1)", x.round(1), 6);
    }

    /** "0 none, 1 GOING, 2 WAITING, 3 DONE, 4 OUT". */
    private static void statesOfATask() {
        GrowingStacks x = new GrowingStacks();
        Programs.foreign(x, 0, 1, 5, 1);
        Programs.same(x, 1, 1);
        Programs.forever(x, 2, 8);
        DUE.is("none", x.task(1, 0), 0);
        x.start(0, 0, 0, 0);
        x.start(1, 0, 0, 0);
        DUE.is("GOING", x.task(1, 0), 1);
        x.step(0, 1);
        x.step(1, 1);
        DUE.is("WAITING", x.task(1, 0), 2);
        x.step(0, 1);
        DUE.is("WAITING, until its next STEP", x.task(1, 0), 2);
        x.step(1, 1);
        DUE.is("GOING", x.task(1, 0), 1);
        x.step(1, 2);
        DUE.is("DONE", x.task(1, 0), 3);
        x.start(1, 2, 0, 0);
        DUE.is("GOING", x.task(1, 0), 1);
        x.step(1, 200);
        DUE.is("OUT", x.task(1, 0), 4);
        x.stop(1);
        DUE.is("none", x.task(1, 0), 0);
    }

    /** "A TASK begins with a STACK of one PIECE of FIRST WORDS, and a call of its FUNCTION." */
    private static void beginsWithOnePiece() {
        int[] firsts = {8, 9, 16, 63, 64};
        for (int first : firsts) {
            for (int mode = 0; mode < 2; mode++) {
                GrowingStacks x = new GrowingStacks();
                x.set(0, first);
                Programs.same(x, 0, 6);
                x.start(0, 0, 5, mode);
                DUE.piece(x, 0, 0, 0, first, 8, 0);
                DUE.is("piece(0, 1, 0)", x.piece(0, 1, 0), -1);
                DUE.is("MODE", x.task(0, 1), mode);
                DUE.is("PIECES", x.task(0, 6), 1);
                DUE.is("FRAMES", x.task(0, 4), 1);
                DUE.is("STEPS", x.task(0, 3), 0);
                DUE.is("CHECKED", x.task(0, 12), 1);
                DUE.is("LINE that comes next", x.task(0, 11), 0);
                DUE.is("count(3)", x.count(3), 1);
                DUE.is("nothing is told of it", x.look(14), 0);
            }
        }
    }

    /** "FRAMES lie one behind the other in a PIECE, from its beginning on". */
    private static void framesOneBehindTheOther() {
        GrowingStacks x = new GrowingStacks();
        x.set(0, 64);
        for (int f = 0; f < 6; f++) {
            Programs.through(x, f, f + 1, f + 1);
        }
        Programs.same(x, 6, 7);
        x.start(1, 0, 5, 0);
        x.start(0, 0, 5, 0);
        x.step(0, 6);
        int place = 64;
        for (int i = 0; i <= 6; i++) {
            DUE.is("frame(0, " + i + ", 1)", x.frame(0, i, 1), place);
            place += i + 3;
        }
        DUE.is("WORDS used", x.piece(0, 0, 2), place - 64);
    }

    /** "DEEP of a FUNCTION: WORDS of its FRAME, and the greatest DEEP of those that its LINES CALL or have called back". */
    private static void deepGreatest() {
        GrowingStacks x = new GrowingStacks();
        Programs.empty(x, 1, 2);
        Programs.deepOf(x, 2, 20);
        Programs.empty(x, 4, 5);
        x.function(0, 1, 0);
        DUE.is("deep(0)", x.deep(0), 3);
        x.line(0, Programs.CALL, 1, 0, 0);
        DUE.is("one of 4: deep(0)", x.deep(0), 7);
        x.line(0, Programs.RETURN, 0, 0, 0);
        x.line(0, Programs.FOREIGN, 1, 2, 0);
        DUE.is("one of 20, called back, where it never comes: deep(0)", x.deep(0), 23);
        x.line(0, Programs.CALL, 4, 0, 0);
        DUE.is("one of 7: deep(0)", x.deep(0), 23);
        x.line(0, Programs.CALL, 2, 0, 0);
        DUE.is("one of 20 again: deep(0)", x.deep(0), 23);
        x.function(2, 2, 0);
        DUE.is("that has 4 WORDS now: deep(0)", x.deep(0), 10);
    }

    /** "(0 without any, of ones that are not told)". */
    private static void deepOfNothing() {
        GrowingStacks x = new GrowingStacks();
        x.function(0, 8, 0);
        for (int f = 1; f <= 9; f++) {
            x.line(0, f % 2 == 0 ? Programs.CALL : Programs.FOREIGN, f, f % 2 == 0 ? 0 : f, 0);
        }
        // FOREIGN calls of 1 .. 9 WORDS call back 1, 3 .. 9; 2, 4, 6, 8 are called
        DUE.is("nobody is told: deep(0)", x.deep(0), 10);
        x.line(0, Programs.FOREIGN, 40, -1, 0);
        DUE.is("nothing is called back: deep(0)", x.deep(0), 10);
        x.function(9, 3, 0);
        DUE.is("deep(0)", x.deep(0), 15);
        x.function(8, 4, 0);
        DUE.is("deep(0)", x.deep(0), 16);
        x.function(8, 0, 0);
        DUE.is("deep(0)", x.deep(0), 15);
        x.function(9, 0, 0);
        DUE.is("deep(0)", x.deep(0), 10);
    }

    /** "ENDLESS, if it can so come to itself, or to one that is ENDLESS". */
    private static void deepEndless() {
        GrowingStacks x = new GrowingStacks();
        Programs.forever(x, 0, 1);
        DUE.is("it calls itself", x.deep(0), -2);
        Programs.foreign(x, 1, 1, 1, 1);
        DUE.is("it has itself called back", x.deep(1), -2);
        Programs.through(x, 2, 1, 3);
        DUE.is("3 is not told", x.deep(2), 3);
        Programs.foreign(x, 3, 1, 1, 2);
        DUE.is("it calls who has it called back", x.deep(2), -2);
        DUE.is("it has who calls it called back", x.deep(3), -2);
        Programs.foreign(x, 4, 1, 1, 0);
        DUE.is("it comes to one that is ENDLESS", x.deep(4), -2);
        Programs.through(x, 5, 1, 4);
        DUE.is("it comes to one that comes to one", x.deep(5), -2);
        x.function(6, 1, 0);
        x.line(6, Programs.RETURN, 0, 0, 0);
        x.line(6, Programs.CALL, 6, 0, 0);
        DUE.is("by a LINE to which it never comes", x.deep(6), -2);
        x.function(3, 0, 0);
        DUE.is("the way is gone", x.deep(2), 3);
        Programs.same(x, 7, 1);
        DUE.is("one that comes to nobody", x.deep(7), 3);
        x.line(7, Programs.CALL, 8, 0, 0);
        x.line(7, Programs.CALL, 8, 0, 0);
        Programs.same(x, 8, 1);
        DUE.is("twice the same one is no way to itself", x.deep(7), 6);
        x.function(0, 1, 0);
        DUE.is("not ENDLESS any more", x.deep(0), 3);
        DUE.is("nor who came to it", x.deep(4), 6);
        DUE.is("nor who came to that one", x.deep(5), 9);
    }

    /** The same over all ten FUNCTIONS, up and down. */
    private static void deepOfTen() {
        GrowingStacks up = new GrowingStacks();
        Programs.chain(up, 0, 9, 8);
        GrowingStacks down = new GrowingStacks();
        Programs.same(down, 0, 8);
        for (int f = 1; f <= 9; f++) {
            Programs.through(down, f, 8, f - 1);
        }
        for (int f = 0; f <= 9; f++) {
            DUE.is("up: deep(" + f + ")", up.deep(f), 10 * (10 - f));
            DUE.is("down: deep(" + f + ")", down.deep(f), 10 * (f + 1));
        }
        up.line(9, Programs.CALL, 0, 0, 0);
        down.line(0, Programs.FOREIGN, 1, 9, 0);
        for (int f = 0; f <= 9; f++) {
            DUE.is("up, round and round: deep(" + f + ")", up.deep(f), -2);
            DUE.is("down, round and round: deep(" + f + ")", down.deep(f), -2);
            DUE.is("need(" + f + ")", up.need(f), 10);
        }
    }

    /** "NEED of a call: if MERGE is 1 and DEEP is RED at most (not ENDLESS): DEEP, and the FRAME is COVERED". */
    private static void needUpToRed() {
        int[] reds = {10, 11, 39, 40, 41, 79, 80};
        for (int red : reds) {
            for (int more = -1; more <= 1; more++) {
                int deep = red + more;
                if (deep > 80) {
                    continue;
                }
                GrowingStacks x = new GrowingStacks();
                x.set(0, 64);
                x.set(3, red);
                Programs.deepOf(x, 0, deep);
                int frame = deep > 12 ? 10 : deep > 10 ? deep - 3 : deep;
                DUE.is("RED " + red + ", DEEP " + deep + ": need(0)", x.need(0), more <= 0 ? deep : frame);
                x.start(0, 0, 5, 0);
                DUE.is("RED " + red + ", DEEP " + deep + ": COVERED", x.frame(0, 0, 3), more <= 0 ? 1 : 0);
            }
        }
        GrowingStacks x = new GrowingStacks();
        Programs.forever(x, 0, 2);
        DUE.is("ENDLESS: need(0)", x.need(0), 4);
        x.start(0, 0, 5, 0);
        DUE.is("ENDLESS: COVERED", x.frame(0, 0, 3), 0);
    }

    /** "else the WORDS of its FRAME". */
    private static void needWithoutMerge() {
        GrowingStacks x = new GrowingStacks();
        x.set(2, 0);
        Programs.chain(x, 0, 2, 3);
        x.start(0, 0, 5, 0);
        x.step(0, 2);
        for (int f = 0; f < 3; f++) {
            DUE.is("need(" + f + ")", x.need(f), 5);
            DUE.is("frame(0, " + f + ", 3)", x.frame(0, f, 3), 0);
        }
        DUE.is("CHECKED", x.task(0, 12), 3);
    }

    /** "Who is called out of a FRAME that is COVERED is COVERED, without a CHECK; else it is CHECKED (counted)". */
    private static void calledOutOfCovered() {
        GrowingStacks x = caller(64, 30);
        x.start(0, 0, 5, 0);
        DUE.is("FRAME 0 is not", x.frame(0, 0, 3), 0);
        int[] checked = {1, 2, 2, 2};
        int[] covered = {0, 0, 1, 2};
        for (int i = 1; i <= 3; i++) {
            x.step(0, 1);
            DUE.is("frame(0, " + i + ", 3)", x.frame(0, i, 3), 1);
            DUE.is("CHECKED", x.task(0, 12), checked[i]);
            DUE.is("count(3)", x.count(3), checked[i]);
            DUE.is("count(11)", x.count(11), covered[i]);
        }
        x.step(0, 9);
        DUE.is("RESULT", x.task(0, 2), 5);
        DUE.is("DONE: CHECKED", x.task(0, 12), 2);
    }

    /** "are there NEED WORDS from TOP to the end of the (last) PIECE? If not, it GROWS". */
    private static void roomToTheEndOfThePiece() {
        for (int mode = 0; mode < 2; mode++) {
            for (int first = 19; first <= 21; first++) {
                GrowingStacks x = new GrowingStacks();
                x.set(0, first);
                Programs.forever(x, 0, 8);
                x.start(0, 0, 5, mode);
                x.step(0, 1);
                boolean grown = first < 20;
                DUE.is("moved", x.task(0, 13), grown && mode == 0 ? 1 : 0);
                DUE.is("SPLITS", x.task(0, 15), grown && mode == 1 ? 1 : 0);
                DUE.is("place of FRAME 1", x.frame(0, 1, 1), grown ? 19 + (mode == 0 ? 10 : 0) : 10);
            }
            for (int first = 9; first <= 10; first++) {
                GrowingStacks x = new GrowingStacks();
                x.set(0, first);
                Programs.forever(x, 0, 8);
                x.start(0, 0, 5, mode);
                DUE.is("as it begins: moved", x.task(0, 13), first == 9 && mode == 0 ? 1 : 0);
                DUE.is("as it begins: SPLITS", x.task(0, 15), first == 9 && mode == 1 ? 1 : 0);
            }
        }
    }

    /** The same: what is free in a PIECE before the last one is no room. */
    private static void roomOfTheLastPieceAlone() {
        GrowingStacks x = new GrowingStacks();
        x.set(0, 18);
        x.set(2, 0);
        Programs.through(x, 0, 8, 1);
        Programs.through(x, 1, 7, 2);
        Programs.through(x, 2, 6, 3);
        Programs.same(x, 3, 6);
        x.start(0, 0, 5, 1);
        x.step(0, 3);
        // 8 WORDS are left in PIECE 0, none in PIECE 1 behind FRAMES of 9 and 8 but one
        DUE.piece(x, 0, 0, 0, 18, 10, 0);
        DUE.piece(x, 0, 1, 18, 18, 17, 0);
        DUE.piece(x, 0, 2, 36, 18, 8, 0);
        DUE.is("PIECE of FRAME 3", x.frame(0, 3, 2), 2);
    }

    /** "COPIED: a PIECE of twice as many WORDS, or four times .. the fewest that there are enough". */
    private static void twiceOrFourTimes() {
        int[][] rows = {{9, 16}, {16, 16}, {17, 32}, {32, 32}, {33, 64}, {64, 64}, {65, 128}, {80, 128}};
        for (int[] r : rows) {
            GrowingStacks x = new GrowingStacks();
            x.set(0, 8);
            x.set(3, 80);
            Programs.deepOf(x, 0, r[0]);
            x.start(0, 0, 5, 0);
            int frame = x.task(0, 5);
            DUE.piece(x, 0, 0, 8, r[1], frame, 0);
            DUE.log(x, 0, 0, 0, 8, r[1]);
            DUE.is("one move for all", x.task(0, 13), 1);
            DUE.is("nothing came over", x.task(0, 14), 0);
            DUE.gaps(x, 0, 8, 8 + r[1], 2040 - r[1]);
        }
    }

    /** "enough for what is used and NEED". */
    private static void enoughForWhatIsUsedAndNeed() {
        int[][] rows = {{21, 32}, {22, 32}, {23, 64}, {54, 64}, {55, 128}};
        for (int[] r : rows) {
            GrowingStacks x = caller(16, r[0]);
            x.start(0, 0, 5, 0);
            x.step(0, 1);
            DUE.piece(x, 0, 0, 16, r[1], 20, 0);
            DUE.log(x, 0, 0, 0, 16, r[1]);
            DUE.is("WORDS that came over", x.task(0, 14), 10);
            DUE.is("count(5)", x.count(5), 10);
        }
    }

    /** The same: what was used before counts for nothing. */
    private static void enoughForWhatIsUsedNow() {
        GrowingStacks x = new GrowingStacks();
        x.set(0, 8);
        x.set(2, 0);
        x.function(0, 1, 0);
        x.line(0, Programs.CALL, 1, 0, 0);
        x.line(0, Programs.QUIET, 0, 0, 0);
        x.line(0, Programs.QUIET, 0, 0, 0);
        x.line(0, Programs.QUIET, 0, 0, 0);
        x.line(0, Programs.CALL, 6, 0, 0);
        Programs.chain(x, 1, 5, 8);
        Programs.same(x, 6, 8);
        x.start(0, 0, 5, 0);
        x.step(0, 10);
        DUE.is("WORDS", x.task(0, 7), 64);
        DUE.is("the most WORDS used at once", x.task(0, 18), 53);
        x.step(0, 3);
        DUE.is("three times smaller", x.task(0, 16), 3);
        DUE.is("WORDS", x.task(0, 7), 8);
        x.step(0, 1);
        DUE.is("3 and 10 are used", x.task(0, 5), 13);
        DUE.is("WORDS", x.task(0, 7), 16);
    }

    /** "there all WORDS that are used come, each BASE and each POINTER (but NONE) by as much as the PIECE has been moved". */
    private static void allWordsComeAlong() {
        GrowingStacks x = new GrowingStacks();
        x.set(0, 10);
        x.function(0, 6, 0b110100);
        x.line(0, Programs.POINT, 2, 1, 0);
        x.line(0, Programs.SET, 1, 4, 0);
        x.line(0, Programs.SET, 3, -1, 0);
        x.line(0, Programs.POINT, 5, 3, 0);
        x.line(0, Programs.CALL, 0, 1, 3);
        x.start(1, 0, 2, 0);
        x.start(0, 0, 2, 0);
        x.step(0, 4);
        DUE.slots(x, 0, 0, 2, 4, 13, -1, -1, 15);
        x.step(0, 1);
        // from 10 to 20: the NUMBERS, 2, 4 and -1, are no places; POINTER 4 is NOWHERE
        DUE.piece(x, 0, 0, 20, 20, 16, 0);
        DUE.slots(x, 0, 0, 2, 4, 23, -1, -1, 25);
        DUE.slots(x, 0, 1, 4, 0, -1, 0, -1, -1);
        DUE.is("BASE of FRAME 0", x.frame(0, 0, 6), -1);
        DUE.is("BASE of FRAME 1", x.frame(0, 1, 6), 20);
        DUE.is("BACK of FRAME 1", x.frame(0, 1, 7), 5);
        DUE.is("place of the other TASK", x.frame(1, 0, 1), 0);
        x.step(0, 5);
        // to the first gap of 40: from 20 to 40
        DUE.piece(x, 0, 0, 40, 40, 24, 0);
        DUE.slots(x, 0, 0, 2, 4, 43, -1, -1, 45);
        DUE.slots(x, 0, 1, 4, 4, 51, -1, -1, 53);
        DUE.is("BASE of FRAME 2", x.frame(0, 2, 6), 48);
        DUE.is("never(1)", x.never(1), 0);
    }

    /** "the old PIECE is given back then": until then its WORDS are no gap for the new one. */
    private static void oldPieceIsGivenBackThen() {
        GrowingStacks x = new GrowingStacks();
        Programs.forever(x, 0, 8);
        x.start(0, 0, 5, 0);
        x.step(0, 1);
        DUE.piece(x, 0, 0, 16, 32, 20, 0);
        DUE.gaps(x, 0, 16, 48, 2000);
        x.step(0, 2);
        DUE.piece(x, 0, 0, 48, 64, 40, 0);
        DUE.gaps(x, 0, 48, 112, 1936);
        x.step(0, 98);
        DUE.is("WORDS", x.task(0, 7), 1024);
        x.step(0, 1);
        DUE.is("2048 WORDS and 1024 there are not", x.task(0, 0), 4);
    }

    /** "LINKED: has the SPARE NEED WORDS, it is the last PIECE now". */
    private static void spareHasNeedWords() {
        for (int need = 19; need <= 21; need++) {
            GrowingStacks x = new GrowingStacks();
            x.set(3, 21);
            Programs.both(x, 0, 8, 1, 3);
            Programs.deepOf(x, 1, 20);
            Programs.deepOf(x, 3, need);
            x.start(0, 0, 5, 1);
            x.step(0, 4);
            DUE.piece(x, 0, 1, 16, 20, 0, 1);
            DUE.is("WORDS of all its PIECES", x.task(0, 7), 36);
            DUE.is("look(6)", x.look(6), 36);
            x.step(0, 1);
            boolean again = need <= 20;
            DUE.is("SPLITS", x.task(0, 15), again ? 1 : 2);
            DUE.is("the SPARE is the last one", x.task(0, 17), again ? 1 : 0);
            DUE.is("count(8)", x.count(8), again ? 1 : 0);
            DUE.piece(x, 0, 1, 16, again ? 20 : 21, 10, 0);
            DUE.log(x, 0, again ? 4 : 2, 0, 16, again ? 20 : 21);
            DUE.is("lines of THE LOG", x.look(14), again ? 3 : 4);
            DUE.is("PIECES", x.task(0, 6), 2);
        }
    }

    /** The same with others before it: its PIECES have 16 WORDS each, its SPARE 20. */
    private static void spareAmongOthers() {
        GrowingStacks x = new GrowingStacks();
        x.set(3, 21);
        Programs.through(x, 0, 8, 1);
        Programs.through(x, 1, 8, 2);
        Programs.deepOf(x, 2, 20);
        x.start(1, 0, 5, 0);
        x.start(2, 0, 5, 0);
        x.start(0, 0, 5, 1);
        x.step(0, 2);
        x.step(0, 3);
        DUE.is("need(2)", x.need(2), 20);
        DUE.is("PIECES", x.task(0, 6), 3);
        DUE.piece(x, 0, 2, 64, 20, 0, 1);
        DUE.is("WORDS of all its PIECES", x.task(0, 7), 16 + 16 + 20);
        DUE.is("look(6)", x.look(6), 5 * 16 + 4);
        x.step(0, 1);
        DUE.piece(x, 0, 1, 48, 16, 0, 1);
        DUE.is("WORDS of all its PIECES", x.task(0, 7), 32);
    }

    /** "else the SPARE is given back first": so the new PIECE can lie where it lay. */
    private static void spareIsGivenBackFirst() {
        GrowingStacks x = new GrowingStacks();
        x.set(3, 40);
        Programs.both(x, 0, 8, 1, 3);
        Programs.deepOf(x, 1, 20);
        Programs.deepOf(x, 3, 40);
        x.start(0, 0, 5, 1);
        x.step(0, 4);
        x.start(1, 0, 5, 0);
        x.stop(1);
        DUE.gaps(x, 36, 2012);
        x.step(0, 1);
        DUE.piece(x, 0, 1, 16, 40, 10, 0);
        DUE.log(x, 1, 5, 0, 16, 20);
        DUE.log(x, 0, 2, 0, 16, 40);
        DUE.gaps(x, 56, 1992);
    }

    /** "and a PIECE is taken of FIRST or NEED WORDS, the greater number: SPLIT". */
    private static void firstOrNeedTheGreater() {
        for (int need = 15; need <= 17; need++) {
            GrowingStacks x = caller(16, need);
            x.start(0, 0, 5, 1);
            x.step(0, 1);
            int words = need == 17 ? 17 : 16;
            DUE.piece(x, 0, 1, 16, words, 10, 0);
            DUE.log(x, 0, 2, 0, 16, words);
            DUE.is("SPLITS", x.task(0, 15), 1);
            DUE.is("count(6)", x.count(6), 1);
            DUE.is("nothing came over", x.task(0, 14), 0);
        }
    }

    /** "Without such a gap the TASK is OUT." 64 WORDS are left: 64 of a LINKED one have room, 128 have not. */
    private static void outWithoutAGap() {
        for (int mode = 0; mode < 2; mode++) {
            GrowingStacks x = new GrowingStacks();
            x.set(0, 64);
            Programs.forever(x, 0, 8);
            x.start(0, 0, 0, 1);
            x.start(1, 0, 0, mode);
            x.step(0, 29 * 6 + 5);
            DUE.gaps(x, 1984, 64);
            x.step(1, 5);
            DUE.is("60 WORDS used", x.task(1, 5), 60);
            DUE.is("step(1, 1)", x.step(1, 1), 1);
            DUE.is("MODE " + mode, x.task(1, 0), mode == 0 ? 4 : 1);
            DUE.is("look(6)", x.look(6), mode == 0 ? 1920 : 2048);
            if (mode == 0) {
                DUE.log(x, 0, 8, 1, -1, -1);
                DUE.gaps(x, 64, 64, 1984, 64);
            }
        }
    }

    /** The same, as the SPARE is given back and that is not enough: 64 WORDS for a call that needs 80. */
    private static void outThoughTheSpareIsGivenBack() {
        GrowingStacks x = new GrowingStacks();
        x.set(0, 64);
        x.set(3, 80);
        Programs.both(x, 0, 8, 4, 2);
        Programs.forever(x, 1, 8);
        Programs.chain(x, 2, 9, 8);
        DUE.is("need(4)", x.need(4), 60);
        DUE.is("need(2)", x.need(2), 80);
        x.start(0, 0, 5, 1);
        x.step(0, 1 + 11);
        DUE.piece(x, 0, 1, 64, 64, 0, 1);
        x.start(1, 1, 0, 1);
        x.step(1, 29 * 6 + 5);
        DUE.gaps(x);
        x.step(0, 1);
        DUE.is("OUT", x.task(0, 0), 4);
        DUE.log(x, 0, 8, 0, -1, -1);
        DUE.log(x, 1, 5, 0, 64, 64);
        DUE.gaps(x, 0, 128);
        DUE.is("SPLITS", x.task(0, 15), 1);
    }

    /** "LINKED: was it the first one of its PIECE, and not of the first PIECE". */
    private static void notTheFirstOneOfItsPiece() {
        GrowingStacks x = new GrowingStacks();
        x.set(2, 0);
        Programs.chain(x, 0, 3, 5);
        x.start(0, 0, 5, 1);
        x.step(0, 3);
        // 7 WORDS each, two in each PIECE
        DUE.is("PIECES", x.task(0, 6), 2);
        int lines = x.look(14);
        x.step(0, 1);
        DUE.is("the second one of PIECE 1", x.look(14), lines);
        DUE.piece(x, 0, 1, 16, 16, 7, 0);
        x.step(0, 1);
        DUE.is("the first one of PIECE 1", x.look(14), lines + 1);
        DUE.log(x, 0, 3, 0, 16, 16);
        x.step(0, 1);
        DUE.is("the second one of PIECE 0", x.look(14), lines + 1);
        DUE.is("PIECES", x.task(0, 6), 2);
        x.step(0, 1);
        DUE.log(x, 0, 9, 0, -1, -1);
        DUE.is("the first one of PIECE 0", x.look(14), lines + 2);
    }

    /** "HOT 1: that PIECE is the SPARE ..; 0: it is given back". */
    private static void hotAndCold() {
        for (int hot = 0; hot < 2; hot++) {
            GrowingStacks x = new GrowingStacks();
            x.set(1, hot);
            x.set(2, 0);
            Programs.through(x, 0, 8, 1);
            Programs.same(x, 1, 8);
            x.start(0, 0, 5, 1);
            x.step(0, 2);
            DUE.is("PIECES", x.task(0, 6), 1 + hot);
            DUE.is("WORDS", x.task(0, 7), 16 + 16 * hot);
            DUE.is("look(6)", x.look(6), 16 + 16 * hot);
            DUE.is("look(7)", x.look(7), 1 + hot);
            DUE.piece(x, 0, 1, hot == 1 ? 16 : -1, hot == 1 ? 16 : -1, hot == 1 ? 0 : -1, hot == 1 ? 1 : -1);
            DUE.log(x, 0, hot == 1 ? 3 : 5, 0, 16, 16);
            DUE.is("WORDS used", x.task(0, 5), 10);
        }
    }

    /** "(an elder SPARE is given back)": there is never more than one. */
    private static void elderSpare() {
        GrowingStacks x = new GrowingStacks();
        x.set(2, 0);
        Programs.chain(x, 0, 4, 8);
        x.start(0, 0, 5, 1);
        x.step(0, 4);
        DUE.is("PIECES", x.task(0, 6), 5);
        for (int left = 4; left >= 1; left--) {
            x.step(0, 1);
            DUE.is("PIECES", x.task(0, 6), left + 1);
            DUE.is("look(7)", x.look(7), left + 1);
            DUE.is("look(6)", x.look(6), 16 * (left + 1));
            DUE.piece(x, 0, left, 16 * left, 16, 0, 1);
            DUE.piece(x, 0, left - 1, 16 * (left - 1), 16, 10, 0);
        }
        DUE.is("lines: 4 of SPLIT, 4 of SPARE, 3 of those given back", x.look(14), 11);
    }

    /** "DONE ..: all its PIECES, its SIDE are given back." */
    private static void doneGivesAllBack() {
        GrowingStacks x = new GrowingStacks();
        x.set(2, 0);
        Programs.through(x, 0, 8, 1);
        Programs.same(x, 1, 8);
        x.start(0, 0, 5, 1);
        x.start(1, 0, 5, 0);
        x.step(0, 2);
        DUE.is("look(7)", x.look(7), 3);
        x.step(0, 1);
        DUE.is("DONE", x.task(0, 0), 3);
        DUE.is("the SPARE, too", x.look(7), 1);
        DUE.gaps(x, 0, 16, 32, 2016);
        DUE.is("nothing is told of that", x.log(1, 0), 3);
        x.step(1, 3);
        DUE.gaps(x, 0, 2048);
        DUE.is("PIECES", x.task(0, 6), 0);
        DUE.is("WORDS", x.task(0, 7), 0);
        DUE.piece(x, 0, 0, -1, -1, -1, -1);
    }

    /** "OUT: all its PIECES, its SIDE are given back." */
    private static void outGivesAllBack() {
        GrowingStacks x = new GrowingStacks();
        x.set(2, 0);
        x.set(5, 10);
        Programs.same(x, 2, 8);
        x.function(1, 8, 0);
        x.line(1, Programs.CALL, 2, 0, 0);
        x.line(1, Programs.FOREIGN, 5, -1, 0);
        x.line(1, Programs.FOREIGN, 6, -1, 0);
        Programs.foreign(x, 0, 8, 5, 1);
        x.start(0, 0, 5, 1);
        x.step(0, 3);
        DUE.is("PIECES, with a SPARE", x.task(0, 6), 3);
        x.step(0, 1);
        DUE.is("SIDE", x.task(0, 8), 0);
        DUE.is("WORDS used there", x.task(0, 9), 5);
        int lines = x.look(14);
        x.step(0, 1);
        DUE.is("OUT", x.task(0, 0), 4);
        DUE.is("SIDE", x.task(0, 8), -1);
        DUE.is("WORDS used there", x.task(0, 9), 0);
        DUE.is("look(9)", x.look(9), 0);
        DUE.gaps(x, 0, 2048);
        DUE.is("just OUT is told of it", x.look(14), lines + 1);
        DUE.log(x, 0, 8, 0, -1, -1);
    }
}
