/**
 * The Terms, ==== 1.: FUNCTIONS, LINES and FRAMES. Each sentence that names an edge stands above the test that it
 * has to itself.
 */
public final class ProgramTermsTest {
    private static final Due DUE = new Due();
    private static final int LEAST = Integer.MIN_VALUE;
    private static final int MOST = Integer.MAX_VALUE;

    public static void main(String[] args) {
        functionsZeroToNine();
        oneToEightSlots();
        zeroSlotsIsNotTold();
        othersAreNumbers();
        numbersWrap();
        lessDoesNotWrap();
        upToSixteenLines();
        toldWhileNoneIsGoingOrWaiting();
        whatIsNotNamedCountsForNothing();
        aSlotMustBeThere();
        setWithinBounds();
        addIntoItself();
        less();
        point();
        loadNowhere();
        storeNowhere();
        callsOfFunctions();
        jumpAboveZero();
        jumpToLines();
        noLineAnyMore();
        foreignWithinBounds();
        wordsOfAFrame();
        baseOfTheFirstAndOfOthers();
        backOfFrames();
        slotsAreZeroOrNowhere();
        slotZero();
        notToldReturnsAtOnce();
        notToldFarFromPlaceZero();
        DUE.end();
    }

    /** "FUNCTIONS 0 .. 9". */
    private static void functionsZeroToNine() {
        GrowingStacks x = new GrowingStacks();
        int[] none = {LEAST, -2, -1, 10, 11, MOST};
        for (int f : none) {
            DUE.no("function(" + f + ", 1, 0)", x.function(f, 1, 0));
            DUE.is("line(" + f + ", 10, 0, 0, 0)", x.line(f, 10, 0, 0, 0), -1);
        }
        DUE.is("look(12)", x.look(12), 0);
        for (int f = 0; f <= 9; f++) {
            DUE.yes("function(" + f + ", 1, 0)", x.function(f, 1, 0));
            DUE.is("look(12)", x.look(12), f + 1);
            DUE.is("line(" + f + ", 10, 0, 0, 0)", x.line(f, 10, 0, 0, 0), 0);
        }
    }

    /** "SIZE: 1 to 8 SLOTS .. by numbers from 0". */
    private static void oneToEightSlots() {
        GrowingStacks x = new GrowingStacks();
        int[] none = {LEAST, -1, 9, 31, 32, 33, MOST};
        for (int size : none) {
            DUE.no("function(0, " + size + ", 0)", x.function(0, size, 0));
        }
        DUE.is("look(12)", x.look(12), 0);
        for (int size = 1; size <= 8; size++) {
            DUE.yes("function(0, " + size + ", 0)", x.function(0, size, 0));
            x.start(0, 0, 5, 0);
            DUE.is("SLOT 0 of " + size, x.slot(0, 0, 0, 1), 5);
            DUE.is("the last SLOT of " + size, x.slot(0, 0, size - 1, 1), size == 1 ? 5 : 0);
            DUE.is("SLOT " + size + " of " + size, x.slot(0, 0, size, 1), Programs.NO_WORD);
            DUE.is("SLOT -1 of " + size, x.slot(0, 0, -1, 1), Programs.NO_WORD);
            x.stop(0);
        }
    }

    /** "(0: not told)". */
    private static void zeroSlotsIsNotTold() {
        GrowingStacks x = new GrowingStacks();
        DUE.yes("of one that was not told", x.function(4, 0, 0));
        DUE.is("look(12)", x.look(12), 0);
        Programs.same(x, 4, 1);
        DUE.is("told: need(4)", x.need(4), 3);
        DUE.yes("not told any more", x.function(4, 0, 0));
        DUE.is("look(12)", x.look(12), 0);
        DUE.is("look(13)", x.look(13), 0);
        DUE.is("deep(4)", x.deep(4), -1);
        DUE.is("need(4)", x.need(4), -1);
        DUE.is("line(4, 10, 0, 0, 0)", x.line(4, 10, 0, 0, 0), -1);
        DUE.no("start(0, 4, 0, 0)", x.start(0, 4, 0, 0));
        DUE.is("endless(4, 0, 0)", x.endless(4, 0, 0), Programs.NO_WORD);
        DUE.is("alone(4, 0, 0, 0)", x.alone(4, 0, 0, 0), -1);
        x.function(4, 1, 0);
        DUE.is("told again it has no LINES", x.endless(4, 7, 0), 0);
    }

    /** "some are POINTERS, all others NUMBERS". */
    private static void othersAreNumbers() {
        GrowingStacks x = new GrowingStacks();
        int bits = 0b10110101;
        x.function(0, 8, bits);
        x.start(0, 0, 9, 0);
        for (int s = 0; s < 8; s++) {
            DUE.is("slot(0, 0, " + s + ", 0)", x.slot(0, 0, s, 0), bits >> s & 1);
            DUE.is("slot(0, 0, " + s + ", 1)", x.slot(0, 0, s, 1), (bits >> s & 1) == 1 ? -1 : 0);
            DUE.is("slot(0, 0, " + s + ", 2)", x.slot(0, 0, s, 2), -1);
            DUE.is("slot(0, 0, " + s + ", 3)", x.slot(0, 0, s, 3), -1);
        }
    }

    /** "NUMBERS (ints, which wrap)". */
    private static void numbersWrap() {
        GrowingStacks x = new GrowingStacks();
        x.function(0, 2, 0);
        x.line(0, Programs.SET, 1, 1, 0);
        x.line(0, Programs.ADD, 0, 0, 1);
        x.line(0, Programs.RETURN, 0, 0, 0);
        x.start(0, 0, MOST, 0);
        x.step(0, 3);
        DUE.is("MAX and 1", x.task(0, 2), LEAST);
        x.function(0, 2, 0);
        x.line(0, Programs.SET, 1, -1, 0);
        x.line(0, Programs.ADD, 0, 1, 0);
        x.line(0, Programs.RETURN, 0, 0, 0);
        x.start(0, 0, LEAST, 0);
        x.step(0, 3);
        DUE.is("MIN and -1", x.task(0, 2), MOST);
        Programs.foreign(x, 1, 1, 1, -1);
        DUE.is("three times MAX and 1", x.endless(1, MOST, 0), MOST - 1);
        DUE.is("three times MIN and 1", x.endless(1, LEAST, 0), LEAST + 1);
        DUE.is("three times 715827882 and 1", x.endless(1, 715827882, 0), MOST);
        DUE.is("three times 715827883 and 1", x.endless(1, 715827883, 0), LEAST + 2);
    }

    /** The same for LESS: what is less is less, though the difference would wrap. */
    private static void lessDoesNotWrap() {
        int[][] rows = {{LEAST, 1, 1}, {LEAST, 0, 1}, {MOST, -1, 0}, {MOST, 0, 0}, {LEAST, -1, 1}, {MOST, 999, 0}};
        for (int[] r : rows) {
            GrowingStacks x = new GrowingStacks();
            x.function(0, 3, 0);
            x.line(0, Programs.SET, 1, r[1], 0);
            x.line(0, Programs.LESS, 2, 0, 1);
            x.line(0, Programs.LESS, 1, 1, 0);
            x.start(0, 0, r[0], 0);
            x.step(0, 3);
            DUE.slots(x, 0, 0, r[0], 1 - r[2], r[2]);
        }
    }

    /** "CODE: up to 16 LINES". */
    private static void upToSixteenLines() {
        GrowingStacks x = new GrowingStacks();
        x.function(2, 1, 0);
        for (int i = 0; i < 15; i++) {
            DUE.is("LINE " + i, x.line(2, Programs.ADD, 0, 0, 0), i);
        }
        DUE.is("LINE 15", x.line(2, Programs.RETURN, 0, 0, 0), 15);
        DUE.is("LINE 16", x.line(2, Programs.RETURN, 0, 0, 0), -1);
        DUE.is("LINE 16 again", x.line(2, Programs.QUIET, 0, 0, 0), -1);
        DUE.is("look(13)", x.look(13), 16);
        DUE.is("RESULT of 16 LINES", x.endless(2, 3, 0), 3 << 15);
        DUE.is("STEPS of 16 LINES", x.endless(2, 3, 1), 16);
    }

    /** "All of that is told while no TASK is GOING or WAITING". */
    private static void toldWhileNoneIsGoingOrWaiting() {
        GrowingStacks x = new GrowingStacks();
        Programs.foreign(x, 0, 1, 5, 1);
        Programs.through(x, 1, 1, 2);
        Programs.same(x, 2, 1);
        x.set(0, 17);
        x.start(0, 0, 6, 0);
        refused(x, "one GOING");
        x.step(0, 1);
        x.start(5, 0, 7, 1);
        x.step(5, 1);
        x.stop(0);
        DUE.is("WAITING", x.task(5, 0), 2);
        refused(x, "one WAITING");
        DUE.is("step(5, 9)", x.step(5, 9), 5);
        DUE.is("the program is as it was", x.task(5, 2), 7);
        DUE.yes("DONE: set(0, 18)", x.set(0, 18));
        DUE.yes("DONE: function(3, 2, 0)", x.function(3, 2, 0));
        DUE.is("DONE: line(3, 10, 0, 0, 0)", x.line(3, 10, 0, 0, 0), 0);
        Programs.forever(x, 4, 8);
        x.start(5, 4, 0, 0);
        x.step(5, 200);
        DUE.is("OUT", x.task(5, 0), 4);
        DUE.yes("OUT: set(0, 19)", x.set(0, 19));
        DUE.yes("OUT: function(3, 0, 0)", x.function(3, 0, 0));
        DUE.is("OUT: line(4, 10, 0, 0, 0)", x.line(4, 10, 0, 0, 0), 1);
    }

    private static void refused(GrowingStacks x, String when) {
        String before = WholeTest.all(x);
        for (int what = 0; what < 6; what++) {
            DUE.no(when + ": set(" + what + ", as it is)", x.set(what, x.look(what)));
        }
        DUE.no(when + ": set(0, 20)", x.set(0, 20));
        DUE.no(when + ": function(2, 1, 0)", x.function(2, 1, 0));
        DUE.no(when + ": function(2, 0, 0)", x.function(2, 0, 0));
        DUE.no(when + ": function(9, 8, 0)", x.function(9, 8, 0));
        DUE.is(when + ": line(0, 10, 0, 0, 0)", x.line(0, 10, 0, 0, 0), -1);
        DUE.is(when + ": line(2, 6, 2, 0, 0)", x.line(2, 6, 2, 0, 0), -1);
        DUE.yes(when + ": nothing is told", before.equals(WholeTest.all(x)));
    }

    /** "what a KIND doesn't name counts for nothing". */
    private static void whatIsNotNamedCountsForNothing() {
        int[] wild = {LEAST, -1000, -1, 0, 9, 16, 1000, MOST};
        for (int w : wild) {
            GrowingStacks x = new GrowingStacks();
            x.function(0, 4, 8);
            int[][] lines = {{Programs.SET, 1, 6, w}, {Programs.POINT, 3, 1, w}, {Programs.LOAD, 2, 3, w},
                {Programs.STORE, 3, 0, w}, {Programs.QUIET, w, w, w}, {Programs.JUMP, 2, 7, w}, {Programs.RETURN, 0, w, w},
                {Programs.RETURN, 1, w, w}};
            for (int i = 0; i < lines.length; i++) {
                DUE.is("LINE " + i + " with " + w, x.line(0, lines[i][0], lines[i][1], lines[i][2], lines[i][3]), i);
            }
            DUE.is("none of it is a call: deep(0)", x.deep(0), 6);
            x.start(0, 0, 44, 0);
            DUE.is("STEPS with " + w, x.step(0, 9), 7);
            DUE.is("RESULT with " + w, x.task(0, 2), 44);
        }
    }

    /** "a SLOT that it names must be there, a NUMBER or a POINTER as it says". 'n', 'p', 's': NUMBER, POINTER, either. */
    private static void aSlotMustBeThere() {
        String[] roles = {"n--", "nnn", "nnn", "pn-", "np-", "pn-", "-sn", "n--", "n--", "--n", "---"};
        int[] slots = {LEAST, -1, 0, 1, 2, 3, 4, 8, MOST};
        for (int kind = 0; kind <= 10; kind++) {
            for (int part = 0; part < 3; part++) {
                for (int s : slots) {
                    GrowingStacks x = new GrowingStacks();
                    x.function(5, 4, 0b0110);
                    int[] abc = {fine(roles[kind], 0), fine(roles[kind], 1), fine(roles[kind], 2)};
                    char role = roles[kind].charAt(part);
                    if (role != '-') {
                        abc[part] = s;
                        boolean there = s >= 0 && s < 4;
                        boolean pointer = s == 1 || s == 2;
                        boolean due = there && (role == 's' || role == 'p' && pointer || role == 'n' && !pointer);
                        String call = "line(5, " + kind + ", " + abc[0] + ", " + abc[1] + ", " + abc[2] + ")";
                        DUE.is(call, x.line(5, kind, abc[0], abc[1], abc[2]), due ? 0 : -1);
                        DUE.is(call + " look(13)", x.look(13), due ? 1 : 0);
                    }
                }
            }
        }
    }

    /** A part that can be: a POINTER, or 3, which is a NUMBER, a LINE, a FUNCTION and some WORDS. */
    private static int fine(String roles, int part) {
        return roles.charAt(part) == 'p' ? 1 : 3;
    }

    /** "SET: NUMBER a is b (-999 .. 999)". */
    private static void setWithinBounds() {
        int[] can = {-999, -998, 0, 998, 999};
        int[] cannot = {LEAST, -1001, -1000, 1000, 1001, MOST};
        for (int b : can) {
            GrowingStacks x = new GrowingStacks();
            x.function(0, 2, 0);
            DUE.is("line(0, 0, 1, " + b + ", 0)", x.line(0, Programs.SET, 1, b, 0), 0);
            x.start(0, 0, 5, 0);
            x.step(0, 1);
            DUE.slots(x, 0, 0, 5, b);
        }
        for (int b : cannot) {
            GrowingStacks x = new GrowingStacks();
            x.function(0, 2, 0);
            DUE.is("line(0, 0, 1, " + b + ", 0)", x.line(0, Programs.SET, 1, b, 0), -1);
        }
    }

    /** "ADD: NUMBER a is NUMBER b and NUMBER c": b and c may be a as well. */
    private static void addIntoItself() {
        int[][] rows = {{0, 1, 2, 30}, {1, 0, 2, 25}, {2, 1, 0, 15}, {1, 1, 2, 30}, {1, 2, 1, 30}, {2, 2, 2, 40}};
        for (int[] r : rows) {
            GrowingStacks x = new GrowingStacks();
            x.function(0, 3, 0);
            x.line(0, Programs.SET, 1, 10, 0);
            x.line(0, Programs.SET, 2, 20, 0);
            x.line(0, Programs.ADD, r[0], r[1], r[2]);
            x.start(0, 0, 5, 0);
            x.step(0, 3);
            int[] due = {5, 10, 20};
            due[r[0]] = r[3];
            DUE.slots(x, 0, 0, due);
        }
    }

    /** "LESS: NUMBER a is 1, if NUMBER b is less than NUMBER c, else 0": not if both are the same. */
    private static void less() {
        int[][] rows = {{4, 1}, {5, 0}, {6, 0}, {-5, 1}};
        for (int[] r : rows) {
            GrowingStacks x = new GrowingStacks();
            x.function(0, 4, 0);
            x.line(0, Programs.SET, 2, 5, 0);
            x.line(0, Programs.SET, 1, r[0], 0);
            x.line(0, Programs.LESS, 3, 1, 2);
            x.line(0, Programs.LESS, 2, 2, 1);
            x.start(0, 0, 77, 0);
            x.step(0, 4);
            DUE.slots(x, 0, 0, 77, r[0], r[0] > 5 ? 1 : 0, r[1]);
        }
    }

    /** "POINT: POINTER a points to NUMBER b of this FRAME": not of one that called, nor of one that is called. */
    private static void point() {
        GrowingStacks x = new GrowingStacks();
        x.function(0, 3, 0b010);
        x.line(0, Programs.POINT, 1, 2, 0);
        x.line(0, Programs.CALL, 1, 1, 2);
        x.function(1, 5, 0b00011);
        x.line(1, Programs.POINT, 1, 4, 0);
        x.line(1, Programs.CALL, 1, 1, 2);
        x.start(0, 0, 0, 0);
        x.step(0, 5);
        // FRAMES at 0, 5 and 12, all moved by 16 as the third one came
        DUE.is("place of FRAME 2", x.frame(0, 2, 1), 28);
        int[][] rows = {{0, 1, 20, 0, 2}, {1, 0, 20, 0, 2}, {1, 1, 27, 1, 4}, {2, 0, 27, 1, 4}, {2, 1, 34, 2, 4}};
        for (int[] r : rows) {
            String call = "slot(0, " + r[0] + ", " + r[1] + ", ";
            DUE.is(call + "0)", x.slot(0, r[0], r[1], 0), 1);
            DUE.is(call + "1)", x.slot(0, r[0], r[1], 1), r[2]);
            DUE.is(call + "2)", x.slot(0, r[0], r[1], 2), r[3]);
            DUE.is(call + "3)", x.slot(0, r[0], r[1], 3), r[4]);
        }
    }

    /** "LOAD: NUMBER a is that to which POINTER b points (0, if it points NOWHERE)". */
    private static void loadNowhere() {
        GrowingStacks x = new GrowingStacks();
        x.function(0, 4, 0b1100);
        x.line(0, Programs.SET, 1, 7, 0);
        x.line(0, Programs.LOAD, 1, 2, 0);
        x.line(0, Programs.SET, 1, 8, 0);
        x.line(0, Programs.POINT, 3, 0, 0);
        x.line(0, Programs.LOAD, 1, 3, 0);
        x.start(0, 0, 123, 0);
        x.step(0, 1);
        DUE.slots(x, 0, 0, 123, 7, -1, -1);
        x.step(0, 1);
        DUE.slots(x, 0, 0, 123, 0, -1, -1);
        x.step(0, 3);
        DUE.slots(x, 0, 0, 123, 123, -1, 2);
    }

    /** "STORE: that to which POINTER a points is NUMBER b (NOWHERE: nothing)". */
    private static void storeNowhere() {
        GrowingStacks x = new GrowingStacks();
        x.function(0, 4, 0b1100);
        x.line(0, Programs.SET, 1, 9, 0);
        x.line(0, Programs.STORE, 2, 1, 0);
        x.line(0, Programs.STORE, 3, 0, 0);
        x.line(0, Programs.POINT, 3, 0, 0);
        x.line(0, Programs.STORE, 3, 1, 0);
        Programs.empty(x, 1, 1);
        x.start(4, 1, 0, 0);
        x.start(0, 0, 123, 0);
        x.start(1, 1, 0, 0);
        x.step(0, 3);
        DUE.slots(x, 0, 0, 123, 9, -1, -1);
        DUE.slots(x, 4, 0, 0);
        DUE.slots(x, 1, 0, 0);
        DUE.is("BASE", x.frame(0, 0, 6), -1);
        DUE.is("LINE", x.task(0, 11), 3);
        x.step(0, 2);
        DUE.slots(x, 0, 0, 9, 9, -1, 18);
    }

    /** "CALL: FUNCTION a is called with SLOT b, what it RETURNS comes to NUMBER c". */
    private static void callsOfFunctions() {
        int[] none = {LEAST, -2, -1, 10, MOST};
        for (int a : none) {
            GrowingStacks x = new GrowingStacks();
            x.function(0, 3, 0);
            DUE.is("line(0, 6, " + a + ", 0, 0)", x.line(0, Programs.CALL, a, 0, 0), -1);
        }
        for (int a = 0; a <= 9; a++) {
            GrowingStacks x = new GrowingStacks();
            x.function(3, 4, 0);
            x.line(3, Programs.SET, 1, 50, 0);
            x.line(3, Programs.SET, 2, 60, 0);
            DUE.is("line(3, 6, " + a + ", 1, 2)", x.line(3, Programs.CALL, a, 1, 2), 2);
            if (a != 3) {
                Programs.same(x, a, 1);
            }
            x.start(0, 3, 40, 0);
            x.step(0, 3);
            DUE.is("the FUNCTION that is called", x.task(0, 10), a);
            DUE.slots(x, 0, 0, 40, 50, 60, 0);
            DUE.slots(x, 0, 1, 50);
            if (a != 3) {
                x.step(0, 1);
                DUE.slots(x, 0, 0, 40, 50, 50, 0);
            }
        }
    }

    /** "JUMP: if NUMBER a is above 0": not by 0, nor by what is below it. */
    private static void jumpAboveZero() {
        int[][] rows = {{LEAST, 1}, {-1, 1}, {0, 1}, {1, 2}, {2, 2}, {MOST, 2}};
        for (int[] r : rows) {
            GrowingStacks x = new GrowingStacks();
            x.function(0, 2, 0);
            x.line(0, Programs.JUMP, 0, 2, 0);
            x.start(0, 0, r[0], 0);
            x.step(0, 1);
            DUE.is("LINE behind a JUMP by " + r[0], x.task(0, 11), r[1]);
            DUE.slots(x, 0, 0, r[0], 0);
        }
    }

    /** "it goes on at LINE b (0 .. 15)", where there may be none. */
    private static void jumpToLines() {
        int[] none = {LEAST, -1, 16, 17, MOST};
        for (int b : none) {
            GrowingStacks x = new GrowingStacks();
            x.function(0, 1, 0);
            DUE.is("line(0, 7, 0, " + b + ", 0)", x.line(0, Programs.JUMP, 0, b, 0), -1);
        }
        for (int b = 0; b <= 15; b++) {
            GrowingStacks x = new GrowingStacks();
            x.function(0, 2, 0);
            DUE.is("line(0, 7, 0, " + b + ", 0)", x.line(0, Programs.JUMP, 0, b, 0), 0);
            for (int i = 1; i < 15; i++) {
                x.line(0, Programs.SET, 1, i, 0);
            }
            x.line(0, Programs.RETURN, 1, 0, 0);
            x.start(0, 0, 1, 0);
            x.step(0, 1);
            DUE.is("LINE that comes next", x.task(0, 11), b);
            x.step(0, 1);
            DUE.is("LINE " + b + " is done", x.task(0, 11), b == 15 ? -1 : b == 0 ? 0 : b + 1);
            DUE.is("RESULT", x.task(0, 2), 0);
            DUE.is("state", x.task(0, 0), b == 15 ? 3 : 1);
            if (b > 0 && b < 15) {
                DUE.slots(x, 0, 0, 1, b);
            }
        }
    }

    /** "Where there is no LINE any more, it RETURNS 0." */
    private static void noLineAnyMore() {
        GrowingStacks x = new GrowingStacks();
        Programs.empty(x, 0, 8);
        DUE.is("no LINE at all: RESULT", x.endless(0, 5, 0), 0);
        DUE.is("no LINE at all: STEPS", x.endless(0, 5, 1), 1);
        x.function(1, 2, 0);
        x.line(1, Programs.SET, 1, 5, 0);
        x.line(1, Programs.CALL, 0, 0, 1);
        x.start(0, 1, 9, 0);
        x.step(0, 2);
        DUE.slots(x, 0, 0, 9, 5);
        DUE.is("LINE that comes next in it", x.frame(0, 1, 4), 0);
        x.step(0, 1);
        DUE.slots(x, 0, 0, 9, 0);
        DUE.is("LINE that comes next", x.task(0, 11), 2);
        DUE.is("step(0, 3)", x.step(0, 3), 1);
        DUE.is("RESULT", x.task(0, 2), 0);
        DUE.is("state", x.task(0, 0), 3);
        x.function(2, 1, 0);
        x.line(2, Programs.JUMP, 0, 2, 0);
        DUE.is("a JUMP behind the last LINE: RESULT", x.endless(2, 5, 0), 0);
        DUE.is("a JUMP behind the last LINE: STEPS", x.endless(2, 5, 1), 2);
    }

    /** "FOREIGN: a FOREIGN call that needs a (1 .. 40) WORDS .. FUNCTION b (NONE: nothing)". */
    private static void foreignWithinBounds() {
        int[][] rows = {{1, -1, 0}, {40, -1, 0}, {1, 0, 0}, {1, 9, 0}, {0, -1, -1}, {41, -1, -1}, {-1, -1, -1},
            {LEAST, -1, -1}, {MOST, -1, -1}, {1, -2, -1}, {1, 10, -1}, {1, LEAST, -1}, {1, MOST, -1}};
        for (int[] r : rows) {
            GrowingStacks x = new GrowingStacks();
            x.function(0, 1, 0);
            DUE.is("line(0, 9, " + r[0] + ", " + r[1] + ", 0)", x.line(0, Programs.FOREIGN, r[0], r[1], 0), r[2]);
            DUE.is("look(13)", x.look(13), r[2] + 1);
        }
    }

    /** "A FRAME of a FUNCTION: SIZE and 2 WORDS". */
    private static void wordsOfAFrame() {
        for (int size = 1; size <= 8; size++) {
            GrowingStacks x = new GrowingStacks();
            x.set(0, 64);
            Programs.forever(x, 0, size);
            x.start(0, 0, 5, 0);
            DUE.is("WORDS of a FRAME of SIZE " + size, x.task(0, 5), size + 2);
            DUE.is("deep(0), of one without LINES", deepOfEmpty(size), size + 2);
            x.step(0, 2);
            DUE.is("place of the third one", x.frame(0, 2, 1), 2 * (size + 2));
            DUE.is("used", x.piece(0, 0, 2), 3 * (size + 2));
        }
    }

    private static int deepOfEmpty(int size) {
        GrowingStacks x = new GrowingStacks();
        Programs.empty(x, 0, size);
        return x.deep(0);
    }

    /** "BASE (the place of the FRAME that called it; NONE of the first one)", in each of two TASKS. */
    private static void baseOfTheFirstAndOfOthers() {
        GrowingStacks x = new GrowingStacks();
        Programs.forever(x, 0, 2);
        x.start(0, 0, 0, 0);
        x.start(1, 0, 0, 1);
        x.round(4);
        // TASK 0 lies at 32 .. 63 now; TASK 1 at 16 .. 31 and in the gap at 0
        int[] bases = {-1, 32, 36, 40, 44};
        int[] linked = {-1, 16, 20, 24, 28};
        for (int i = 0; i < 5; i++) {
            DUE.is("frame(0, " + i + ", 6)", x.frame(0, i, 6), bases[i]);
            DUE.is("frame(1, " + i + ", 6)", x.frame(1, i, 6), linked[i]);
        }
        DUE.is("frame(1, 4, 1)", x.frame(1, 4, 1), 0);
    }

    /**
     * "BACK (.. 32 times the FUNCTION that called it, and the LINE behind the call; 0 of the first one; and 1024, if
     * this FRAME is COVERED; and 2048, if it was called back)".
     */
    private static void backOfFrames() {
        for (int way = 0; way < 8; way++) {
            boolean covered = (way & 1) != 0;
            boolean back = (way & 2) != 0;
            int line = (way & 4) != 0 ? 15 : 0;
            GrowingStacks x = new GrowingStacks();
            x.set(2, covered ? 1 : 0);
            x.function(9, 1, 0);
            for (int i = 0; i < line; i++) {
                x.line(9, Programs.QUIET, 0, 0, 0);
            }
            x.line(9, back ? Programs.FOREIGN : Programs.CALL, 1, back ? 1 : 0, 0);
            Programs.same(x, 1, 1);
            x.start(0, 9, 8, 0);
            DUE.is("BACK of the first one", x.frame(0, 0, 7), covered ? 1024 : 0);
            x.step(0, line + 1);
            int due = 32 * 9 + line + 1 + (covered ? 1024 : 0) + (back ? 2048 : 0);
            DUE.is("BACK of the other one", x.frame(0, 1, 7), due);
            DUE.is("COVERED", x.frame(0, 1, 3), covered ? 1 : 0);
            DUE.is("called back", x.frame(0, 1, 5), back ? 1 : 0);
            DUE.is("LINE behind the call", x.frame(0, 0, 4), line + 1);
            x.step(0, 2);
            DUE.is("RESULT, where there is no LINE any more", x.task(0, 2), 0);
        }
    }

    /** "then its SLOTS: 0, POINTERS NONE (NOWHERE)", whatever lay there before. */
    private static void slotsAreZeroOrNowhere() {
        GrowingStacks x = new GrowingStacks();
        x.function(0, 1, 0);
        x.line(0, Programs.CALL, 1, 0, 0);
        x.line(0, Programs.CALL, 2, 0, 0);
        x.function(1, 4, 0b1000);
        x.line(1, Programs.SET, 0, 11, 0);
        x.line(1, Programs.SET, 1, 12, 0);
        x.line(1, Programs.SET, 2, 13, 0);
        x.line(1, Programs.POINT, 3, 0, 0);
        x.line(1, Programs.RETURN, 1, 0, 0);
        x.function(2, 4, 0b0110);
        x.start(0, 0, 5, 0);
        x.step(0, 5);
        DUE.slots(x, 0, 1, 11, 12, 13, 5);
        x.step(0, 2);
        DUE.slots(x, 0, 1, 12, -1, -1, 0);
        DUE.is("BASE", x.frame(0, 1, 6), 0);
    }

    /** "but its SLOT 0 is what it is called with, if both are NUMBERS, or both POINTERS". */
    private static void slotZero() {
        // NUMBER 0, POINTER 1 to it, POINTER 2 NOWHERE; who is called has a NUMBER (1) or a POINTER (2) first
        int[][] rows = {{1, 0, 42}, {1, 1, 0}, {1, 2, 0}, {2, 0, -1}, {2, 1, 2}, {2, 2, -1}};
        for (int[] r : rows) {
            GrowingStacks x = new GrowingStacks();
            x.function(0, 4, 0b0110);
            x.line(0, Programs.POINT, 1, 0, 0);
            x.line(0, Programs.CALL, r[0], r[1], 3);
            x.function(1, 1, 0);
            x.function(2, 1, 1);
            x.start(0, 0, 42, 0);
            x.step(0, 2);
            DUE.is("FUNCTION " + r[0] + " called with SLOT " + r[1], x.slot(0, 1, 0, 1), r[2]);
        }
        GrowingStacks x = new GrowingStacks();
        x.function(0, 2, 1);
        x.line(0, Programs.LOAD, 1, 0, 0);
        x.line(0, Programs.RETURN, 1, 0, 0);
        x.start(0, 0, 2, 0);
        DUE.slots(x, 0, 0, -1, 0);
        DUE.is("a TASK whose SLOT 0 is a POINTER", x.endless(0, 2, 0), 0);
    }

    /** "(FUNCTION not told: it RETURNS 0 at once, without a FRAME.)" */
    private static void notToldReturnsAtOnce() {
        for (int merge = 0; merge < 2; merge++) {
            GrowingStacks x = new GrowingStacks();
            x.set(2, merge);
            x.function(0, 4, 0);
            x.line(0, Programs.SET, 2, 7, 0);
            x.line(0, Programs.SET, 3, 8, 0);
            x.line(0, Programs.CALL, 9, 2, 3);
            x.line(0, Programs.RETURN, 3, 0, 0);
            x.start(0, 0, 5, merge);
            x.step(0, 2);
            DUE.slots(x, 0, 0, 5, 0, 7, 8);
            DUE.is("step(0, 1)", x.step(0, 1), 1);
            DUE.slots(x, 0, 0, 5, 0, 7, 0);
            DUE.is("FRAMES", x.task(0, 4), 1);
            DUE.is("LINE", x.task(0, 11), 3);
            DUE.is("the most WORDS used at once", x.task(0, 18), 6);
            DUE.is("CHECKED", x.task(0, 12), 1);
            DUE.is("COVERED without a CHECK", x.count(11), 0);
            DUE.is("step(0, 9)", x.step(0, 9), 1);
        }
    }

    /** The same far from place 0, out of a FRAME in a second PIECE, of a FUNCTION that is not the first one. */
    private static void notToldFarFromPlaceZero() {
        GrowingStacks x = new GrowingStacks();
        x.set(2, 0);
        Programs.through(x, 4, 8, 7);
        x.function(7, 8, 0);
        for (int s = 0; s < 8; s++) {
            x.line(7, Programs.SET, s, 50 + s, 0);
        }
        x.line(7, Programs.CALL, 0, 2, 5);
        x.line(7, Programs.CALL, 1, 5, 6);
        x.start(5, 4, 9, 0);
        x.start(3, 4, 9, 1);
        x.step(3, 9);
        DUE.slots(x, 3, 1, 50, 51, 52, 53, 54, 55, 56, 57);
        x.step(3, 1);
        DUE.slots(x, 3, 1, 50, 51, 52, 53, 54, 0, 56, 57);
        x.step(3, 1);
        DUE.slots(x, 3, 1, 50, 51, 52, 53, 54, 0, 0, 57);
        DUE.slots(x, 3, 0, 9, 0, 0, 0, 0, 0, 0, 0);
        DUE.slots(x, 5, 0, 9, 0, 0, 0, 0, 0, 0, 0);
        DUE.is("LINE", x.task(3, 11), 10);
    }
}
