/** Promises 9, 10, 11, 17, 18 and 22: PIECES that are taken, moved, linked, joined and given back. */
public final class GrowingTest {
    private static final Due DUE = new Due();

    public static void main(String[] args) {
        copiedIsMoved();
        fourTimesAsMany();
        onlyWhatIsWordsOfPlacesIsTurned();
        justEnough();
        copiedOut();
        coveredIsNotChecked();
        spareForALoop();
        coldLoop();
        spareTooSmall();
        elderSpareIsGivenBack();
        linkedFromTheStart();
        outAsItBegins();
        quietCopied();
        quietWithoutGap();
        quietKeepsRoomForCovered();
        quietByLine();
        quietLinked();
        joined();
        joinedKeepsRoomForCovered();
        joinedWithoutGap();
        compacted();
        gapsHowMany();
        logKeepsForty();
        DUE.end();
    }

    /** FUNCTION 0 hands a POINTER to its NUMBER 0 to 1, which hands it on without an end. */
    private static void copiedIsMoved() {
        GrowingStacks x = new GrowingStacks();
        x.function(0, 3, 2);
        x.line(0, Programs.POINT, 1, 0, 0);
        x.line(0, Programs.CALL, 1, 1, 2);
        x.function(1, 2, 1);
        x.line(1, Programs.SET, 1, 7, 0);
        x.line(1, Programs.STORE, 0, 1, 0);
        x.line(1, Programs.CALL, 1, 0, 1);
        x.start(0, 0, 99, 0);
        x.step(0, 7);
        DUE.is("used", x.task(0, 5), 13);
        DUE.is("a POINTER before", x.slot(0, 2, 0, 1), 2);
        x.step(0, 1);
        DUE.is("used", x.task(0, 5), 17);
        DUE.piece(x, 0, 0, 16, 32, 17, 0);
        DUE.log(x, 0, 0, 0, 16, 32);
        DUE.is("WORDS that came over", x.task(0, 14), 13);
        int[] places = {16, 21, 25, 29};
        int[] bases = {-1, 16, 21, 25};
        for (int i = 0; i < 4; i++) {
            DUE.is("place of FRAME " + i, x.frame(0, i, 1), places[i]);
            DUE.is("BASE of FRAME " + i, x.frame(0, i, 6), bases[i]);
            DUE.is("POINTER of FRAME " + i, x.slot(0, i, i == 0 ? 1 : 0, 1), 18);
            DUE.is("it points to FRAME", x.slot(0, i, i == 0 ? 1 : 0, 2), 0);
        }
        DUE.is("gap(-1, 1)", x.gap(-1, 1), 2);
        DUE.is("gap(0, 0)", x.gap(0, 0), 0);
        DUE.is("gap(0, 1)", x.gap(0, 1), 16);
        DUE.is("gap(1, 0)", x.gap(1, 0), 48);
        DUE.is("gap(1, 1)", x.gap(1, 1), 2000);
        DUE.is("gap(2, 0)", x.gap(2, 0), -1);
        DUE.is("gap(-2, 0)", x.gap(-2, 0), -1);
        DUE.is("gap(0, -1)", x.gap(0, -1), -1);
        DUE.is("gap(0, 2)", x.gap(0, 2), -1);
        DUE.is("piece(0, 0, 4)", x.piece(0, 0, 4), -1);
        DUE.is("piece(0, 0, -1)", x.piece(0, 0, -1), -1);
        DUE.is("piece(0, 1, 0)", x.piece(0, 1, 0), -1);
        DUE.is("piece(0, -1, 0)", x.piece(0, -1, 0), -1);
        DUE.is("piece(-1, 0, 0)", x.piece(-1, 0, 0), -1);
        DUE.is("piece(6, 0, 0)", x.piece(6, 0, 0), -1);
        DUE.is("never(1)", x.never(1), 0);
        DUE.is("never(2)", x.never(2), 0);
    }

    /** DEEP is 30: out of 8 WORDS, 16 are too few; it grows as it begins, with nothing to come over. */
    private static void fourTimesAsMany() {
        GrowingStacks x = new GrowingStacks();
        x.set(0, 8);
        Programs.same(x, 2, 8);
        Programs.through(x, 1, 8, 2);
        Programs.through(x, 0, 8, 1);
        DUE.yes("start(0, 0, 5, 0)", x.start(0, 0, 5, 0));
        DUE.piece(x, 0, 0, 8, 32, 10, 0);
        DUE.log(x, 0, 0, 0, 8, 32);
        DUE.is("moved", x.task(0, 13), 1);
        DUE.is("came over", x.task(0, 14), 0);
        DUE.is("place", x.frame(0, 0, 1), 8);
        DUE.is("COVERED", x.frame(0, 0, 3), 1);
        DUE.is("BACK", x.frame(0, 0, 7), 1024);
        DUE.is("number", x.slot(0, 0, 0, 1), 5);
        DUE.is("gap(0, 1)", x.gap(0, 1), 8);
    }

    /** NUMBERS that look like places stay as they are. */
    private static void onlyWhatIsWordsOfPlacesIsTurned() {
        GrowingStacks x = new GrowingStacks();
        Programs.sum(x, 0);
        x.start(0, 0, 6, 0);
        x.step(0, 12);
        DUE.is("moved", x.task(0, 13), 1);
        int[] numbers = {6, 5, 4, 3};
        for (int i = 0; i < 4; i++) {
            DUE.is("NUMBER 0 of FRAME " + i, x.slot(0, i, 0, 1), numbers[i]);
            DUE.is("NUMBER 1 of FRAME " + i, x.slot(0, i, 1, 1), i < 3 ? numbers[i] - 1 : 0);
        }
        DUE.is("BACK of FRAME 3", x.frame(0, 3, 7), 5);
    }

    /** FRAMES that fill their PIECES to the last WORD, and a SPARE that has just the WORDS of NEED. */
    private static void justEnough() {
        GrowingStacks x = new GrowingStacks();
        x.set(0, 10);
        Programs.sum(x, 0);
        x.start(0, 0, 1, 0);
        x.step(0, 4);
        DUE.is("FRAMES", x.task(0, 4), 2);
        DUE.piece(x, 0, 0, 0, 10, 10, 0);
        DUE.is("moved", x.task(0, 13), 0);
        x.step(0, 9);
        x.set(2, 0);
        Programs.same(x, 2, 8);
        Programs.same(x, 3, 1);
        x.function(1, 8, 0);
        x.line(1, Programs.CALL, 2, 0, 0);
        x.line(1, Programs.CALL, 2, 0, 0);
        x.line(1, Programs.CALL, 3, 0, 0);
        x.line(1, Programs.RETURN, 0, 0, 0);
        x.start(0, 1, 4, 1);
        x.step(0, 3);
        DUE.is("SPLITS", x.task(0, 15), 1);
        DUE.is("SPARE again", x.task(0, 17), 1);
        DUE.piece(x, 0, 1, 10, 10, 10, 0);
        x.step(0, 2);
        DUE.is("used", x.task(0, 5), 13);
        DUE.is("the most at once", x.task(0, 18), 20);
        x.step(0, 9);
        DUE.is("the most at once", x.task(0, 18), 20);
    }

    /** 10 WORDS each: 16, 32 .. 1024 WORDS; 2048 more there are not: 102 FRAMES fit. */
    private static void copiedOut() {
        GrowingStacks x = new GrowingStacks();
        Programs.forever(x, 0, 8);
        x.start(4, 0, 0, 0);
        DUE.is("step(4, 101)", x.step(4, 101), 101);
        DUE.is("WORDS", x.task(4, 7), 1024);
        DUE.is("FRAMES", x.task(4, 4), 102);
        DUE.is("step(4, 10)", x.step(4, 10), 1);
        DUE.is("OUT", x.task(4, 0), 4);
        DUE.log(x, 0, 8, 4, -1, -1);
        int[] facts = {4, 0, 0, 102, 0, 0, 0, 0, -1, 0, -1, -1, 103, 6, 10 + 30 + 60 + 120 + 250 + 510, 0, 0, 0, 1020};
        for (int what = 0; what <= 18; what++) {
            DUE.is("task(4, " + what + ")", x.task(4, what), facts[what]);
        }
        DUE.is("count(1)", x.count(1), 1);
        DUE.is("look(6)", x.look(6), 0);
        DUE.is("step(4, 1)", x.step(4, 1), 0);
    }

    private static void coveredIsNotChecked() {
        GrowingStacks x = new GrowingStacks();
        Programs.same(x, 2, 1);
        Programs.through(x, 1, 1, 2);
        Programs.loop(x, 0, 3, 1);
        x.start(0, 0, 2, 1);
        DUE.is("need(0)", x.need(0), 11);
        x.step(0, 200);
        DUE.is("CHECKED", x.task(0, 12), 1);
        DUE.is("count(11)", x.count(11), 4);
        x.set(3, 10);
        x.start(0, 0, 2, 1);
        DUE.is("COVERED", x.frame(0, 0, 3), 0);
        x.step(0, 2);
        DUE.is("the first one that can be is COVERED", x.frame(0, 1, 3), 1);
        x.step(0, 200);
        DUE.is("CHECKED", x.task(0, 12), 3);
        DUE.is("count(11)", x.count(11), 6);
        x.set(2, 0);
        x.start(0, 0, 2, 1);
        x.step(0, 200);
        DUE.is("CHECKED", x.task(0, 12), 5);
        DUE.is("count(11)", x.count(11), 6);
        DUE.is("count(3)", x.count(3), 9);
    }

    /** FUNCTION 0 has 10 WORDS and calls 1, of 10 WORDS, three times: that never fits into 16 WORDS. */
    private static GrowingStacks hotLoop(int hot) {
        GrowingStacks x = new GrowingStacks();
        x.set(1, hot);
        x.set(2, 0);
        Programs.same(x, 1, 8);
        Programs.loop(x, 0, 8, 1);
        x.start(0, 0, 3, 1);
        return x;
    }

    private static void spareForALoop() {
        GrowingStacks x = hotLoop(1);
        x.step(0, 2);
        DUE.log(x, 0, 2, 0, 16, 16);
        DUE.piece(x, 0, 1, 16, 16, 10, 0);
        x.step(0, 1);
        DUE.log(x, 0, 3, 0, 16, 16);
        DUE.piece(x, 0, 1, 16, 16, 0, 1);
        DUE.is("PIECES", x.task(0, 6), 2);
        DUE.is("WORDS", x.task(0, 7), 32);
        x.step(0, 3);
        DUE.log(x, 0, 4, 0, 16, 16);
        DUE.piece(x, 0, 1, 16, 16, 10, 0);
        DUE.is("SPLITS", x.task(0, 15), 1);
        DUE.is("SPARE again", x.task(0, 17), 1);
        x.step(0, 200);
        DUE.is("RESULT", x.task(0, 2), 1);
        DUE.is("SPLITS", x.task(0, 15), 1);
        DUE.is("SPARE again", x.task(0, 17), 2);
        DUE.is("count(6)", x.count(6), 1);
        DUE.is("count(8)", x.count(8), 2);
        DUE.is("lines of THE LOG: 2 3 4 3 4 3 9", x.look(14), 7);
        DUE.log(x, 0, 9, 0, -1, -1);
        DUE.log(x, 1, 3, 0, 16, 16);
    }

    private static void coldLoop() {
        GrowingStacks x = hotLoop(0);
        x.step(0, 3);
        DUE.log(x, 0, 5, 0, 16, 16);
        DUE.is("PIECES", x.task(0, 6), 1);
        x.step(0, 200);
        DUE.is("SPLITS", x.task(0, 15), 3);
        DUE.is("SPARE again", x.task(0, 17), 0);
        DUE.is("lines of THE LOG: 2 5 2 5 2 5 9", x.look(14), 7);
    }

    /** A SPARE of 16 WORDS, then a call that is COVERED and needs 20. */
    private static void spareTooSmall() {
        GrowingStacks x = new GrowingStacks();
        x.set(3, 20);
        Programs.same(x, 2, 8);
        Programs.through(x, 3, 8, 2);
        x.function(0, 8, 0);
        x.line(0, Programs.CALL, 2, 0, 0);
        x.line(0, Programs.CALL, 3, 0, 0);
        DUE.is("deep(0)", x.deep(0), 30);
        x.start(0, 0, 8, 1);
        x.step(0, 2);
        DUE.log(x, 0, 3, 0, 16, 16);
        x.step(0, 1);
        DUE.log(x, 1, 5, 0, 16, 16);
        DUE.log(x, 0, 2, 0, 16, 20);
        DUE.piece(x, 0, 1, 16, 20, 10, 0);
        x.step(0, 1);
        DUE.piece(x, 0, 1, 16, 20, 20, 0);
        DUE.is("CHECKED", x.task(0, 12), 3);
    }

    /** FRAMES of 10 WORDS, one in each PIECE. */
    private static void elderSpareIsGivenBack() {
        GrowingStacks x = new GrowingStacks();
        x.set(2, 0);
        Programs.same(x, 3, 8);
        Programs.through(x, 2, 8, 3);
        Programs.through(x, 1, 8, 2);
        Programs.through(x, 0, 8, 1);
        x.start(0, 0, 1, 1);
        x.step(0, 3);
        DUE.is("PIECES", x.task(0, 6), 4);
        x.step(0, 1);
        DUE.piece(x, 0, 3, 48, 16, 0, 1);
        x.step(0, 1);
        DUE.is("PIECES", x.task(0, 6), 3);
        DUE.piece(x, 0, 2, 32, 16, 0, 1);
        DUE.log(x, 0, 3, 0, 32, 16);
        DUE.log(x, 1, 5, 0, 48, 16);
        DUE.log(x, 2, 3, 0, 48, 16);
    }

    /** The first call needs 30 WORDS, the first PIECE has 16: its FRAME is the first one of another PIECE. */
    private static void linkedFromTheStart() {
        GrowingStacks x = new GrowingStacks();
        Programs.same(x, 2, 8);
        Programs.through(x, 1, 8, 2);
        Programs.through(x, 0, 8, 1);
        x.start(0, 0, 5, 1);
        DUE.piece(x, 0, 0, 0, 16, 0, 0);
        DUE.piece(x, 0, 1, 16, 30, 10, 0);
        DUE.log(x, 0, 2, 0, 16, 30);
        DUE.is("frame(0, 0, 2)", x.frame(0, 0, 2), 1);
        DUE.is("frame(0, 0, 6)", x.frame(0, 0, 6), -1);
        x.step(0, 2);
        DUE.is("frame(0, 2, 1)", x.frame(0, 2, 1), 36);
        DUE.is("never(1)", x.never(1), 0);
        DUE.is("never(2)", x.never(2), 0);
        x.step(0, 9);
        DUE.is("RESULT", x.task(0, 2), 5);
        DUE.log(x, 0, 9, 0, -1, -1);
        DUE.log(x, 1, 3, 0, 16, 30);
    }

    /** 62 WORDS are left as it begins; 30 PIECES of 64, one of 64 less; its first call needs more. */
    private static void outAsItBegins() {
        GrowingStacks x = new GrowingStacks();
        x.set(0, 63);
        x.set(3, 80);
        Programs.forever(x, 0, 8);
        Programs.same(x, 7, 8);
        for (int f = 1; f < 7; f++) {
            Programs.through(x, f, 8, f + 1);
        }
        DUE.is("need(1)", x.need(1), 70);
        x.start(0, 0, 0, 1);
        x.step(0, 185);
        DUE.is("look(7)", x.look(7), 31);
        DUE.is("look(8)", x.look(8), 2048 - 31 * 63);
        DUE.yes("start(1, 1, 0, 0)", x.start(1, 1, 0, 0));
        DUE.is("task(1, 0)", x.task(1, 0), 4);
        DUE.is("task(1, 3)", x.task(1, 3), 0);
        DUE.is("task(1, 12)", x.task(1, 12), 1);
        DUE.is("task(1, 18)", x.task(1, 18), 0);
        DUE.is("count(1)", x.count(1), 1);
        DUE.log(x, 0, 8, 1, -1, -1);
        DUE.is("step(1, 1)", x.step(1, 1), 0);
        DUE.yes("start(2, 1, 0, 1)", x.start(2, 1, 0, 1));
        DUE.is("task(2, 0)", x.task(2, 0), 4);
        DUE.is("task(2, 1)", x.task(2, 1), 1);
    }

    private static void quietCopied() {
        GrowingStacks x = new GrowingStacks();
        x.set(0, 8);
        Programs.sum(x, 0);
        DUE.no("quiet(0), of none", x.quiet(0));
        DUE.no("quiet(-1)", x.quiet(-1));
        DUE.no("quiet(6)", x.quiet(6));
        x.start(0, 0, 3, 0);
        x.step(0, 12);
        DUE.piece(x, 0, 0, 24, 32, 20, 0);
        DUE.is("came over", x.task(0, 14), 5 + 15);
        x.step(0, 5);
        DUE.is("used", x.task(0, 5), 10);
        DUE.no("quiet(0): 4 times 10 are more than 32", x.quiet(0));
        x.step(0, 2);
        DUE.yes("quiet(0): 4 times 5 are not", x.quiet(0));
        DUE.piece(x, 0, 0, 0, 16, 5, 0);
        DUE.log(x, 0, 1, 0, 0, 16);
        DUE.is("smaller", x.task(0, 16), 1);
        DUE.is("count(7)", x.count(7), 1);
        DUE.is("came over", x.task(0, 14), 5 + 15 + 5);
        DUE.no("quiet(0): 4 times 5 are more than 16", x.quiet(0));
        x.step(0, 9);
        DUE.is("RESULT", x.task(0, 2), 6);
        DUE.no("quiet(0), DONE", x.quiet(0));
        x.set(0, 64);
        Programs.same(x, 1, 1);
        x.start(0, 1, 0, 0);
        DUE.no("the half is less than FIRST", x.quiet(0));
        x.set(0, 8);
    }

    /** The other TASK has all that the smaller PIECE would need. */
    private static void quietWithoutGap() {
        GrowingStacks x = new GrowingStacks();
        x.set(0, 64);
        Programs.sum(x, 0);
        Programs.forever(x, 1, 8);
        x.start(0, 0, 15, 0);
        x.step(0, 60);
        DUE.piece(x, 0, 0, 64, 128, 80, 0);
        x.start(1, 1, 0, 1);
        x.step(1, 179);
        DUE.is("look(8)", x.look(8), 0);
        x.step(0, 3 + 26);
        DUE.is("used", x.task(0, 5), 10);
        DUE.no("quiet(0)", x.quiet(0));
        x.stop(1);
        DUE.yes("quiet(0)", x.quiet(0));
        DUE.piece(x, 0, 0, 0, 64, 10, 0);
    }

    /** RED 10: while the leaf that is COVERED is the last FRAME, 4 times (8 and 10) are more than 64. */
    private static void quietKeepsRoomForCovered() {
        GrowingStacks x = new GrowingStacks();
        x.set(0, 8);
        x.set(3, 10);
        Programs.sum(x, 1);
        Programs.same(x, 2, 1);
        x.function(0, 3, 0);
        x.line(0, Programs.CALL, 1, 0, 1);
        x.line(0, Programs.CALL, 2, 0, 2);
        x.line(0, Programs.RETURN, 1, 0, 0);
        x.start(0, 0, 10, 0);
        x.step(0, 1 + 63 + 1);
        DUE.is("WORDS", x.task(0, 7), 64);
        DUE.is("used", x.task(0, 5), 8);
        DUE.is("COVERED", x.frame(0, 1, 3), 1);
        DUE.no("quiet(0)", x.quiet(0));
        x.step(0, 1);
        DUE.yes("quiet(0)", x.quiet(0));
        DUE.is("WORDS", x.task(0, 7), 32);
    }

    private static void quietByLine() {
        GrowingStacks x = new GrowingStacks();
        x.set(0, 8);
        Programs.sum(x, 1);
        x.function(0, 2, 0);
        x.line(0, Programs.CALL, 1, 0, 0);
        x.line(0, Programs.QUIET, 0, 0, 0);
        x.line(0, Programs.QUIET, 0, 0, 0);
        x.line(0, Programs.QUIET, 0, 0, 0);
        x.line(0, Programs.RETURN, 0, 0, 0);
        x.start(0, 0, 9, 0);
        x.step(0, 1 + 57);
        DUE.is("WORDS", x.task(0, 7), 64);
        x.step(0, 1);
        DUE.is("WORDS", x.task(0, 7), 32);
        x.step(0, 1);
        DUE.is("WORDS", x.task(0, 7), 16);
        x.step(0, 1);
        DUE.is("WORDS", x.task(0, 7), 8);
        DUE.is("smaller", x.task(0, 16), 3);
        x.step(0, 1);
        DUE.is("RESULT", x.task(0, 2), 45);
    }

    private static void quietLinked() {
        GrowingStacks x = hotLoop(1);
        x.step(0, 2);
        DUE.no("no SPARE", x.quiet(0));
        x.step(0, 1);
        DUE.yes("a SPARE", x.quiet(0));
        DUE.log(x, 0, 5, 0, 16, 16);
        DUE.is("PIECES", x.task(0, 6), 1);
        DUE.no("no SPARE any more", x.quiet(0));
    }

    /** FUNCTION 0 (5 WORDS) hands a POINTER to its NUMBER 2 to 1, which has 10 WORDS and hands it to itself. */
    private static void joined() {
        GrowingStacks x = new GrowingStacks();
        x.function(0, 3, 2);
        x.line(0, Programs.POINT, 1, 2, 0);
        x.line(0, Programs.CALL, 1, 1, 2);
        x.function(1, 8, 1);
        x.line(1, Programs.CALL, 1, 0, 1);
        DUE.no("join(0), of none", x.join(0));
        DUE.no("join(-1)", x.join(-1));
        DUE.no("join(6)", x.join(6));
        x.start(1, 0, 9, 0);
        DUE.no("join(1), COPIED", x.join(1));
        x.start(0, 0, 9, 1);
        x.step(0, 4);
        // 16 .. 31: FRAMES of 5 and 10; 32 .. 47: 10; 48 .. 63: 10
        DUE.is("PIECES", x.task(0, 6), 3);
        DUE.is("used", x.task(0, 5), 35);
        DUE.is("a POINTER before", x.slot(0, 3, 0, 1), 20);
        DUE.yes("join(0)", x.join(0));
        DUE.piece(x, 0, 0, 64, 64, 35, 0);
        DUE.is("PIECES", x.task(0, 6), 1);
        DUE.log(x, 0, 6, 0, 64, 64);
        DUE.is("MODE", x.task(0, 1), 0);
        DUE.is("came over", x.task(0, 14), 35);
        DUE.is("moved into a greater one", x.task(0, 13), 0);
        int[] places = {64, 69, 79, 89};
        for (int i = 0; i < 4; i++) {
            DUE.is("place of FRAME " + i, x.frame(0, i, 1), places[i]);
            DUE.is("PIECE of FRAME " + i, x.frame(0, i, 2), 0);
            DUE.is("BASE of FRAME " + i, x.frame(0, i, 6), i == 0 ? -1 : places[i - 1]);
            DUE.is("POINTER of FRAME " + i, x.slot(0, i, i == 0 ? 1 : 0, 1), 68);
        }
        DUE.is("gap(0, 0)", x.gap(0, 0), 16);
        DUE.is("gap(0, 1)", x.gap(0, 1), 48);
        DUE.no("join(0) again", x.join(0));
        x.step(0, 3);
        DUE.is("it is COPIED from then on", x.task(0, 7), 128);
        DUE.is("came over", x.task(0, 14), 35 + 55);
        DUE.is("never(1)", x.never(1), 0);
    }

    /** With 80 as RED, KEPT is 10 and 80: 16 WORDS, doubled to 128. */
    private static void joinedKeepsRoomForCovered() {
        GrowingStacks x = new GrowingStacks();
        x.set(3, 80);
        Programs.same(x, 0, 8);
        x.start(0, 0, 3, 1);
        DUE.yes("join(0)", x.join(0));
        DUE.piece(x, 0, 0, 16, 128, 10, 0);
        GrowingStacks y = new GrowingStacks();
        y.set(2, 0);
        Programs.same(y, 0, 8);
        y.start(0, 0, 3, 1);
        DUE.yes("join(0)", y.join(0));
        DUE.piece(y, 0, 0, 16, 16, 10, 0);
        y.step(0, 1);
        DUE.is("RESULT", y.task(0, 2), 3);
        DUE.no("join(0), DONE", y.join(0));
    }

    private static void joinedWithoutGap() {
        GrowingStacks x = new GrowingStacks();
        Programs.forever(x, 0, 8);
        x.start(0, 0, 0, 1);
        x.step(0, 110);
        int lines = x.look(14);
        DUE.is("PIECES", x.task(0, 6), 111);
        DUE.no("2048 WORDS there are not", x.join(0));
        DUE.is("MODE", x.task(0, 1), 1);
        DUE.is("PIECES", x.task(0, 6), 111);
        DUE.is("nothing is told of it", x.look(14), lines);
    }

    /** Two LINKED TASKS by turns, then one of them goes: what is left comes together. */
    private static void compacted() {
        GrowingStacks x = new GrowingStacks();
        x.set(2, 0);
        x.function(0, 8, 2);
        x.line(0, Programs.POINT, 1, 2, 0);
        x.line(0, Programs.CALL, 1, 1, 2);
        x.function(1, 8, 1);
        x.line(1, Programs.CALL, 2, 0, 2);
        x.function(2, 8, 1);
        x.line(2, Programs.RETURN, 2, 0, 0);
        x.start(0, 0, 0, 1);
        x.start(1, 0, 0, 1);
        x.round(3);
        // Of TASK 0: 0, 32, 64; of TASK 1: 16, 48, 80
        DUE.is("nothing lies elsewhere", x.compact(), 0);
        DUE.is("place", x.frame(1, 2, 1), 80);
        x.step(1, 1);
        DUE.piece(x, 1, 2, 80, 16, 0, 1);
        x.stop(0);
        DUE.is("compact()", x.compact(), 3);
        DUE.piece(x, 1, 0, 0, 16, 10, 0);
        DUE.piece(x, 1, 1, 16, 16, 10, 0);
        DUE.piece(x, 1, 2, 32, 16, 0, 1);
        DUE.log(x, 0, 7, 1, 32, 16);
        DUE.log(x, 1, 7, 1, 16, 16);
        DUE.log(x, 2, 7, 1, 0, 16);
        DUE.is("place", x.frame(1, 1, 1), 16);
        DUE.is("BASE", x.frame(1, 1, 6), 0);
        DUE.is("POINTER", x.slot(1, 1, 0, 1), 4);
        DUE.is("POINTER", x.slot(1, 0, 1, 1), 4);
        DUE.is("WORDS that came over by moving", x.task(1, 14), 0);
        DUE.is("compact() again", x.compact(), 0);
        DUE.is("gap(0, 0)", x.gap(0, 0), 48);
        x.step(1, 9);
        DUE.is("DONE", x.task(1, 0), 3);
        DUE.is("compact(), of nothing", x.compact(), 0);
    }

    private static void logKeepsForty() {
        GrowingStacks x = new GrowingStacks();
        Programs.same(x, 0, 1);
        for (int i = 0; i < 45; i++) {
            x.start(i % 6, 0, 0, 0);
            x.step(i % 6, 1);
        }
        DUE.is("look(14)", x.look(14), 45);
        for (int i = 0; i < 40; i++) {
            DUE.log(x, i, 9, (44 - i) % 6, -1, -1);
        }
        DUE.is("log(40, 0)", x.log(40, 0), -1);
        DUE.is("log(-1, 0)", x.log(-1, 0), -1);
        DUE.is("log(0, -1)", x.log(0, -1), -1);
        DUE.is("log(0, 4)", x.log(0, 4), -1);
        GrowingStacks y = new GrowingStacks();
        Programs.same(y, 0, 1);
        y.start(0, 0, 0, 0);
        y.step(0, 1);
        DUE.is("log(1, 0), of one line", y.log(1, 0), -1);
    }

    /** With i NONE it is how many GAPS there are, whatever what is; of one GAP just 0 and 1 are told. */
    private static void gapsHowMany() {
        GrowingStacks x = new GrowingStacks();
        gaps(x, "new", 1);
        Programs.forever(x, 0, 8);
        x.start(0, 0, 0, 0);
        gaps(x, "one PIECE from place 0 on", 1);
        x.step(0, 1);
        gaps(x, "moved", 2);
        x.image(true);
        x.start(1, 0, 0, 0);
        gaps(x, "the first gap is taken", 1);
        x.start(2, 0, 0, 1);
        x.stop(1);
        gaps(x, "another PIECE behind the moved one", 2);
        x.step(2, 1);
        x.stop(0);
        gaps(x, "two linked PIECES far from one another", 2);
        x.compact();
        gaps(x, "compacted", 1);
        x.image(false);
        gaps(x, "the image", 2);
    }

    private static void gaps(GrowingStacks x, String when, int many) {
        int[] whats = {Integer.MIN_VALUE, -2, -1, 0, 1, 2, 3, 1000, Integer.MAX_VALUE};
        for (int what : whats) {
            DUE.is(when + ": gap(-1, " + what + ")", x.gap(-1, what), many);
            for (int i = -2; i <= many; i++) {
                boolean there = i >= 0 && i < many && (what == 0 || what == 1);
                if (i != -1) {
                    DUE.is(when + ": gap(" + i + ", " + what + ") is told", x.gap(i, what) != -1, there);
                }
            }
        }
    }
}
