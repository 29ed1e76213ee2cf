/** Promises 1 to 5, 12 and 13: what is told, and what a FUNCTION needs. */
public final class TellingTest {
    private static final Due DUE = new Due();

    public static void main(String[] args) {
        newObject();
        settings();
        settingsWhileGoing();
        functions();
        lineForms();
        lineNumbers();
        toldWhileGoing();
        starts();
        noGapForStart();
        deepAndNeed();
        DUE.end();
    }

    private static void newObject() {
        GrowingStacks x = new GrowingStacks();
        for (int f = -1; f <= 10; f++) {
            DUE.is("new: deep(" + f + ")", x.deep(f), -1);
            DUE.no("new: start(0, " + f + ", 0, 0)", x.start(0, f, 0, 0));
        }
        DUE.is("new: look(12)", x.look(12), 0);
        DUE.is("new: look(13)", x.look(13), 0);
        DUE.no("new: image(false)", x.image(false));
    }

    private static void settings() {
        int[] least = {8, 0, 0, 10, 1, 10};
        int[] greatest = {64, 1, 1, 80, 3, 90};
        int[] first = {16, 1, 1, 40, 1, 60};
        GrowingStacks x = new GrowingStacks();
        for (int what = 0; what < 6; what++) {
            DUE.is("look(" + what + ") at first", x.look(what), first[what]);
            DUE.yes("set(" + what + ", least)", x.set(what, least[what]));
            DUE.is("look(" + what + ")", x.look(what), least[what]);
            DUE.yes("set(" + what + ", greatest)", x.set(what, greatest[what]));
            DUE.no("set(" + what + ", too small)", x.set(what, least[what] - 1));
            DUE.no("set(" + what + ", too great)", x.set(what, greatest[what] + 1));
            DUE.no("set(" + what + ", MIN)", x.set(what, Integer.MIN_VALUE));
            DUE.no("set(" + what + ", MAX)", x.set(what, Integer.MAX_VALUE));
            DUE.is("look(" + what + ")", x.look(what), greatest[what]);
        }
        DUE.no("set(-1, 1)", x.set(-1, 1));
        DUE.no("set(6, 1)", x.set(6, 1));
        DUE.no("set(MIN, 1)", x.set(Integer.MIN_VALUE, 1));
    }

    private static void settingsWhileGoing() {
        GrowingStacks x = new GrowingStacks();
        Programs.same(x, 0, 1);
        x.start(5, 0, 1, 0);
        DUE.no("going: set(0, 20)", x.set(0, 20));
        x.step(5, 1);
        DUE.yes("done: set(0, 20)", x.set(0, 20));
        x.start(5, 0, 1, 0);
        x.stop(5);
        DUE.yes("stopped: set(0, 21)", x.set(0, 21));
        Programs.foreign(x, 1, 1, 1, 2);
        Programs.forever(x, 2, 1);
        x.start(0, 1, 0, 0);
        x.step(0, 1);
        x.start(1, 1, 0, 0);
        x.step(1, 1);
        x.stop(0);
        DUE.is("waiting: task(1, 0)", x.task(1, 0), 2);
        DUE.no("waiting: set(0, 22)", x.set(0, 22));
        DUE.no("waiting: function(3, 1, 0)", x.function(3, 1, 0));
        DUE.is("waiting: line(0, 10, 0, 0, 0)", x.line(0, 10, 0, 0, 0), -1);
        DUE.is("look(0)", x.look(0), 21);
    }

    private static void functions() {
        GrowingStacks x = new GrowingStacks();
        DUE.no("function(-1, 1, 0)", x.function(-1, 1, 0));
        DUE.no("function(10, 1, 0)", x.function(10, 1, 0));
        DUE.no("function(0, -1, 0)", x.function(0, -1, 0));
        DUE.no("function(0, 9, 0)", x.function(0, 9, 0));
        for (int size = 1; size <= 8; size++) {
            DUE.no("no such SLOT, size " + size, x.function(0, size, 1 << size));
            DUE.no("bits below 0, size " + size, x.function(0, size, -1));
            DUE.no("the highest bit, size " + size, x.function(0, size, Integer.MIN_VALUE));
            DUE.yes("all POINTERS, size " + size, x.function(0, size, (1 << size) - 1));
            DUE.is("deep(0), size " + size, x.deep(0), size + 2);
        }
        DUE.is("look(12)", x.look(12), 1);
        DUE.yes("function(9, 2, 1)", x.function(9, 2, 1));
        DUE.is("look(12)", x.look(12), 2);
        DUE.is("line(9, 8, 1, 0, 0)", x.line(9, 8, 1, 0, 0), 0);
        DUE.is("look(13)", x.look(13), 1);
        DUE.yes("told again", x.function(9, 2, 2));
        DUE.is("its LINES are gone", x.look(13), 0);
        DUE.is("its POINTERS are others", x.line(9, 8, 1, 0, 0), -1);
        DUE.is("its POINTERS are others", x.line(9, 8, 0, 0, 0), 0);
        DUE.yes("function(9, 0, 0)", x.function(9, 0, 0));
        DUE.is("not told any more: deep(9)", x.deep(9), -1);
        DUE.is("not told any more: need(9)", x.need(9), -1);
        DUE.is("not told any more: look(12)", x.look(12), 1);
        DUE.is("not told any more: look(13)", x.look(13), 0);
        DUE.no("not told any more: start(0, 9, 0, 0)", x.start(0, 9, 0, 0));
    }

    /** A FUNCTION with NUMBERS 0, 1 and POINTERS 2, 3: each row is a LINE and whether it can be. */
    private static void lineForms() {
        int[][] rows = {
            {0, 0, -999, 99, 1}, {0, 1, 999, 0, 1}, {0, 0, -1000, 0, 0}, {0, 0, 1000, 0, 0}, {0, 2, 1, 0, 0},
            {0, 4, 1, 0, 0}, {0, -1, 1, 0, 0},
            {1, 0, 1, 1, 1}, {1, 2, 0, 0, 0}, {1, 0, 2, 0, 0}, {1, 0, 0, 2, 0}, {1, 0, 0, 4, 0}, {1, 0, -1, 0, 0},
            {2, 1, 0, 0, 1}, {2, 3, 0, 0, 0}, {2, 0, 3, 0, 0}, {2, 0, 0, 3, 0}, {2, 8, 0, 0, 0},
            {3, 2, 0, 77, 1}, {3, 0, 0, 0, 0}, {3, 2, 3, 0, 0}, {3, 4, 0, 0, 0}, {3, 2, 4, 0, 0}, {3, 2, -1, 0, 0},
            {4, 0, 3, -5, 1}, {4, 2, 3, 0, 0}, {4, 0, 1, 0, 0}, {4, 0, 4, 0, 0}, {4, -1, 2, 0, 0},
            {5, 3, 1, 0, 1}, {5, 1, 1, 0, 0}, {5, 3, 2, 0, 0}, {5, 4, 1, 0, 0}, {5, 3, 4, 0, 0},
            {6, 0, 0, 1, 1}, {6, 9, 3, 1, 1}, {6, 10, 0, 1, 0}, {6, -1, 0, 1, 0}, {6, 0, 4, 1, 0}, {6, 0, -1, 1, 0},
            {6, 0, 0, 2, 0}, {6, 0, 0, 4, 0},
            {7, 0, 0, 50, 1}, {7, 1, 15, 0, 1}, {7, 0, 16, 0, 0}, {7, 0, -1, 0, 0}, {7, 2, 0, 0, 0}, {7, 4, 0, 0, 0},
            {8, 1, 99, 99, 1}, {8, 2, 0, 0, 0}, {8, 4, 0, 0, 0},
            {9, 1, -1, 0, 1}, {9, 40, 9, 1, 1}, {9, 0, -1, 0, 0}, {9, 41, -1, 0, 0}, {9, 1, 10, 0, 0}, {9, 1, -2, 0, 0},
            {9, 1, 0, 2, 0}, {9, 1, 0, 4, 0},
            {10, 99, -99, 99, 1}, {11, 0, 0, 0, 0}, {-1, 0, 0, 0, 0},
            {Integer.MIN_VALUE, 0, 0, 0, 0}, {0, Integer.MAX_VALUE, 0, 0, 0}, {6, 0, Integer.MIN_VALUE, 0, 0},
        };
        for (int[] r : rows) {
            GrowingStacks x = new GrowingStacks();
            x.function(3, 4, 12);
            String call = "line(3, " + r[0] + ", " + r[1] + ", " + r[2] + ", " + r[3] + ")";
            DUE.is(call, x.line(3, r[0], r[1], r[2], r[3]), r[4] == 1 ? 0 : -1);
            DUE.is(call + " look(13)", x.look(13), r[4]);
        }
    }

    private static void lineNumbers() {
        GrowingStacks x = new GrowingStacks();
        DUE.is("not told", x.line(0, 10, 0, 0, 0), -1);
        DUE.is("no such FUNCTION", x.line(-1, 10, 0, 0, 0), -1);
        DUE.is("no such FUNCTION", x.line(10, 10, 0, 0, 0), -1);
        x.function(0, 1, 0);
        x.function(1, 1, 0);
        for (int i = 0; i < 16; i++) {
            DUE.is("LINE " + i, x.line(0, 0, 0, i, 0), i);
        }
        DUE.is("LINE 16", x.line(0, 0, 0, 0, 0), -1);
        DUE.is("LINE 0 of another one", x.line(1, 0, 0, 0, 0), 0);
        DUE.is("look(13)", x.look(13), 17);
    }

    private static void toldWhileGoing() {
        GrowingStacks x = new GrowingStacks();
        Programs.same(x, 0, 1);
        x.start(2, 0, 1, 1);
        DUE.no("going: function(1, 1, 0)", x.function(1, 1, 0));
        DUE.is("going: line(0, 10, 0, 0, 0)", x.line(0, 10, 0, 0, 0), -1);
        x.step(2, 1);
        DUE.is("done: line(0, 10, 0, 0, 0)", x.line(0, 10, 0, 0, 0), 1);
        DUE.yes("done: function(1, 1, 0)", x.function(1, 1, 0));
    }

    private static void starts() {
        GrowingStacks x = new GrowingStacks();
        Programs.same(x, 0, 2);
        x.function(1, 2, 1);
        DUE.no("start(-1, 0, 0, 0)", x.start(-1, 0, 0, 0));
        DUE.no("start(6, 0, 0, 0)", x.start(6, 0, 0, 0));
        DUE.no("start(0, -1, 0, 0)", x.start(0, -1, 0, 0));
        DUE.no("start(0, 10, 0, 0)", x.start(0, 10, 0, 0));
        DUE.no("start(0, 2, 0, 0)", x.start(0, 2, 0, 0));
        DUE.no("start(0, 0, 0, -1)", x.start(0, 0, 0, -1));
        DUE.no("start(0, 0, 0, 2)", x.start(0, 0, 0, 2));
        DUE.is("look(6)", x.look(6), 0);
        DUE.yes("start(5, 0, MIN, 1)", x.start(5, 0, Integer.MIN_VALUE, 1));
        DUE.is("task(5, 0)", x.task(5, 0), 1);
        DUE.is("task(5, 1)", x.task(5, 1), 1);
        DUE.is("task(5, 3)", x.task(5, 3), 0);
        DUE.is("task(5, 12)", x.task(5, 12), 1);
        DUE.is("slot(5, 0, 0, 1)", x.slot(5, 0, 0, 1), Integer.MIN_VALUE);
        DUE.is("slot(5, 0, 1, 1)", x.slot(5, 0, 1, 1), 0);
        DUE.no("GOING: start(5, 0, 0, 0)", x.start(5, 0, 0, 0));
        DUE.yes("a POINTER called with a number", x.start(4, 1, 7, 0));
        DUE.is("slot(4, 0, 0, 1)", x.slot(4, 0, 0, 1), -1);
        DUE.is("slot(4, 0, 1, 1)", x.slot(4, 0, 1, 1), 0);
        x.step(5, 1);
        DUE.is("task(5, 2)", x.task(5, 2), Integer.MIN_VALUE);
        DUE.yes("DONE: start(5, 0, 3, 0)", x.start(5, 0, 3, 0));
        DUE.is("task(5, 1)", x.task(5, 1), 0);
        DUE.is("task(5, 2)", x.task(5, 2), 0);
        DUE.is("task(5, 3)", x.task(5, 3), 0);
    }

    /** A LINKED TASK fills the memory: 32 PIECES of 64 WORDS, 6 FRAMES of 10 WORDS in each. */
    private static void noGapForStart() {
        GrowingStacks x = new GrowingStacks();
        x.set(0, 64);
        Programs.forever(x, 0, 8);
        Programs.same(x, 1, 1);
        x.start(1, 1, 5, 0);
        x.step(1, 1);
        x.start(0, 0, 0, 1);
        DUE.is("step(0, 191)", x.step(0, 191), 191);
        DUE.is("task(0, 4)", x.task(0, 4), 192);
        DUE.is("look(6)", x.look(6), 2048);
        DUE.is("look(7)", x.look(7), 32);
        DUE.is("look(8)", x.look(8), 0);
        DUE.is("gap(-1, 0)", x.gap(-1, 0), 0);
        DUE.is("gap(-1, 2)", x.gap(-1, 2), 0);
        DUE.is("gap(0, 0)", x.gap(0, 0), -1);
        DUE.no("no gap: start(1, 1, 5, 0)", x.start(1, 1, 5, 0));
        DUE.is("it stays DONE", x.task(1, 0), 3);
        DUE.is("with its RESULT", x.task(1, 2), 5);
        DUE.is("step(0, 5)", x.step(0, 5), 1);
        DUE.is("OUT", x.task(0, 0), 4);
        DUE.is("look(6)", x.look(6), 0);
        DUE.yes("start(1, 1, 5, 0)", x.start(1, 1, 5, 0));
        DUE.yes("OUT: start(0, 0, 0, 0)", x.start(0, 0, 0, 0));
    }

    private static void deepAndNeed() {
        GrowingStacks x = new GrowingStacks();
        x.function(0, 1, 0);
        Programs.through(x, 1, 2, 0);
        x.function(2, 3, 0);
        x.line(2, 6, 0, 0, 0);
        x.line(2, 8, 0, 0, 0);
        x.line(2, 9, 5, 1, 0);
        Programs.forever(x, 3, 4);
        Programs.through(x, 4, 1, 3);
        Programs.through(x, 5, 8, 9);
        Programs.foreign(x, 6, 5, 40, -1);
        Programs.foreign(x, 7, 5, 40, 8);
        Programs.through(x, 8, 6, 7);
        int[] deeps = {3, 7, 12, -2, -2, 10, 7, -2, -2, -1};
        int[] needs = {3, 7, 12, 6, 3, 10, 7, 7, 8, -1};
        for (int f = 0; f < 10; f++) {
            DUE.is("deep(" + f + ")", x.deep(f), deeps[f]);
            DUE.is("need(" + f + ")", x.need(f), needs[f]);
        }
        DUE.is("deep(-1)", x.deep(-1), -1);
        DUE.is("deep(10)", x.deep(10), -1);
        DUE.is("need(-1)", x.need(-1), -1);
        DUE.is("need(10)", x.need(10), -1);
        x.set(3, 12);
        DUE.is("RED 12: need(2)", x.need(2), 12);
        x.set(3, 11);
        DUE.is("RED 11: need(2)", x.need(2), 5);
        DUE.is("RED 11: need(1)", x.need(1), 7);
        x.set(2, 0);
        DUE.is("MERGE 0: need(1)", x.need(1), 4);
        DUE.is("MERGE 0: deep(1)", x.deep(1), 7);
        x.function(0, 0, 0);
        DUE.is("who calls one that is not told any more", x.deep(1), 4);
        x.function(3, 4, 0);
        DUE.is("no LINES, so not ENDLESS any more", x.deep(3), 6);
        DUE.is("nor who calls it", x.deep(4), 9);
        x.start(0, 1, 0, 0);
        DUE.is("while a TASK is GOING", x.deep(1), 4);
    }
}
