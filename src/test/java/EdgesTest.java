/**
 * The promises one by one: arguments at and beyond their edges, in several states, and that a refused call changes
 * nothing. The sentence that is tested stands above each test.
 */
public final class EdgesTest {
    private static final Due DUE = new Due();
    private static final int LEAST = Integer.MIN_VALUE;
    private static final int MOST = Integer.MAX_VALUE;
    private static final int[] ODD = {LEAST, LEAST + 1, -1000000000, -41, -3, -2, -1, 0, 1, 2, 3, 4, 5, 6, 7, 8, 9, 10, 11, 12,
        13, 14, 15, 16, 17, 18, 19, 20, 31, 32, 33, 39, 40, 41, 63, 64, 65, 80, 81, 90, 91, 99, 100, 101, 199, 200, 201, 255,
        256, 257, 2047, 2048, 2049, 65536, MOST - 1, MOST};

    public static void main(String[] args) {
        newObject();
        set();
        function();
        functionHasNoLinesThen();
        line();
        start();
        startAgain();
        startWithoutAGap();
        step();
        stepFewer();
        round();
        roundByNumbers();
        stop();
        quiet();
        join();
        compact();
        deepAndNeed();
        needOutOfAFrameThatIsNotCovered();
        taskNone();
        taskDoneAndOut();
        taskWhat();
        frame();
        slot();
        slotThatLooksLikeAPlace();
        piece();
        gap();
        endless();
        land();
        alone();
        log();
        never();
        count();
        image();
        look();
        theLastCall();
        DUE.end();
    }

    private static boolean within(int v, int low, int high) {
        return v >= low && v <= high;
    }

    /** A LINKED TASK 0 with a SPARE, a COPIED TASK 1 on SIDE 0, TASK 2 WAITING, 3 DONE, 4 OUT, 5 none; lines in THE LOG. */
    private static GrowingStacks many() {
        GrowingStacks x = new GrowingStacks();
        x.set(2, 0);
        Programs.both(x, 0, 8, 1, 1);
        Programs.same(x, 1, 8);
        Programs.foreign(x, 2, 3, 10, 4);
        Programs.forever(x, 3, 8);
        x.function(4, 4, 0b0100);
        x.line(4, Programs.POINT, 2, 3, 0);
        x.line(4, Programs.JUMP, 0, 0, 0);
        x.start(4, 3, 0, 0);
        x.step(4, 200);
        x.start(3, 1, 77, 0);
        x.step(3, 1);
        x.start(0, 0, 5, 1);
        x.step(0, 2);
        x.start(1, 2, 6, 0);
        x.step(1, 2);
        x.start(2, 2, 7, 1);
        x.step(2, 1);
        int[] states = {1, 1, 2, 3, 4, 0};
        for (int t = 0; t < 6; t++) {
            DUE.is("state of TASK " + t, x.task(t, 0), states[t]);
        }
        DUE.is("a SPARE", x.piece(0, 1, 3), 1);
        return x;
    }

    /** "GrowingStacks(): No FUNCTION is told." */
    private static void newObject() {
        GrowingStacks x = new GrowingStacks();
        for (int f : ODD) {
            DUE.is("deep(" + f + ")", x.deep(f), -1);
            DUE.is("need(" + f + ")", x.need(f), -1);
            DUE.no("start(0, " + f + ", 0, 0)", x.start(0, f, 0, 0));
        }
        int[] looks = {16, 1, 1, 40, 1, 60, 0, 0, 2048, 0, 0, 0, 0, 0, 0};
        for (int what = 0; what < 15; what++) {
            DUE.is("look(" + what + ")", x.look(what), looks[what]);
        }
        GrowingStacks y = new GrowingStacks();
        Programs.same(y, 0, 1);
        y.start(0, 0, 5, 0);
        y.step(0, 1);
        for (int what = 0; what < 12; what++) {
            DUE.is("of another object: count(" + what + ")", x.count(what), 0);
        }
        DUE.is("of another object: look(12)", x.look(12), 0);
    }

    /** "What 0 FIRST, 1 HOT, 2 MERGE, 3 RED, 4 SIDES, 5 SIDE: true; false if one can't be (now), or another what." */
    private static void set() {
        int[] least = {8, 0, 0, 10, 1, 10};
        int[] greatest = {64, 1, 1, 80, 3, 90};
        GrowingStacks x = new GrowingStacks();
        int[] due = {16, 1, 1, 40, 1, 60};
        for (int what : ODD) {
            for (int v : ODD) {
                boolean can = within(what, 0, 5) && within(v, least[what], greatest[what]);
                DUE.is("set(" + what + ", " + v + ")", x.set(what, v), can);
                if (can) {
                    due[what] = v;
                }
            }
            for (int i = 0; i < 6; i++) {
                DUE.is("look(" + i + ")", x.look(i), due[i]);
            }
        }
        for (int what = 0; what < 6; what++) {
            for (int v = least[what] - 1; v <= greatest[what] + 1; v++) {
                DUE.is("set(" + what + ", " + v + ")", x.set(what, v), within(v, least[what], greatest[what]));
            }
        }
        GrowingStacks busy = many();
        String before = WholeTest.all(busy);
        for (int what : ODD) {
            for (int v : ODD) {
                DUE.no("now: set(" + what + ", " + v + ")", busy.set(what, v));
            }
        }
        DUE.yes("nothing is told", before.equals(WholeTest.all(busy)));
    }

    /** "A FUNCTION is told: SIZE (1 .. 8; 0: ..), its POINTERS (bits of its SLOTS) ..: true; false if it can't be (now)." */
    private static void function() {
        GrowingStacks busy = many();
        String before = WholeTest.all(busy);
        for (int f : ODD) {
            for (int size : ODD) {
                GrowingStacks x = new GrowingStacks();
                boolean can = within(f, 0, 9) && within(size, 0, 8);
                DUE.is("function(" + f + ", " + size + ", 0)", x.function(f, size, 0), can);
                DUE.is("look(12)", x.look(12), can && size > 0 ? 1 : 0);
                DUE.is("deep(" + f + ")", x.deep(f), can && size > 0 ? size + 2 : -1);
                DUE.no("now: function(" + f + ", " + size + ", 0)", busy.function(f, size, 0));
            }
        }
        DUE.yes("nothing is told", before.equals(WholeTest.all(busy)));
        for (int size = 1; size <= 8; size++) {
            for (int bits = -2; bits <= 513; bits++) {
                GrowingStacks x = new GrowingStacks();
                boolean can = within(bits, 0, (1 << size) - 1);
                DUE.is("function(7, " + size + ", " + bits + ")", x.function(7, size, bits), can);
                DUE.is("look(12)", x.look(12), can ? 1 : 0);
            }
            for (int bits : ODD) {
                GrowingStacks x = new GrowingStacks();
                DUE.is("function(7, " + size + ", " + bits + ")", x.function(7, size, bits), within(bits, 0, (1 << size) - 1));
            }
        }
    }

    /** "it has no LINES then"; a FUNCTION that can't be told stays as it was. */
    private static void functionHasNoLinesThen() {
        GrowingStacks x = new GrowingStacks();
        Programs.forever(x, 3, 4);
        Programs.same(x, 4, 4);
        DUE.is("look(13)", x.look(13), 2);
        DUE.no("function(3, 9, 0)", x.function(3, 9, 0));
        DUE.no("function(3, 4, 16)", x.function(3, 4, 16));
        DUE.is("deep(3)", x.deep(3), -2);
        DUE.is("look(13)", x.look(13), 2);
        DUE.yes("told as it was", x.function(3, 4, 0));
        DUE.is("deep(3)", x.deep(3), 6);
        DUE.is("look(13)", x.look(13), 1);
        DUE.is("its first LINE", x.line(3, Programs.QUIET, 0, 0, 0), 0);
        DUE.is("those of others stay", x.endless(4, 9, 0), 9);
        DUE.yes("not told any more", x.function(4, 0, 0));
        DUE.is("look(13)", x.look(13), 1);
        DUE.is("look(12)", x.look(12), 1);
    }

    /** "A LINE more of a FUNCTION: its number; NONE if it can't be (now; not told, too), or there are 16." */
    private static void line() {
        GrowingStacks busy = many();
        String before = WholeTest.all(busy);
        GrowingStacks x = new GrowingStacks();
        x.function(2, 2, 0);
        x.function(9, 2, 0);
        int told = 0;
        for (int f : ODD) {
            for (int kind : ODD) {
                boolean can = (f == 2 || f == 9) && within(kind, 0, 10) && kind != 3 && kind != 4 && kind != 5;
                // a is 1: a NUMBER, a FUNCTION, some WORDS; b is 1, too
                DUE.is("line(" + f + ", " + kind + ", 1, 1, 1)", x.line(f, kind, 1, 1, 1), can ? told % 8 : -1);
                told += can ? 1 : 0;
                DUE.is("look(13)", x.look(13), told);
                DUE.is("now: line(" + f + ", " + kind + ", 1, 1, 1)", busy.line(f, kind, 1, 1, 1), -1);
            }
        }
        DUE.yes("nothing is told", before.equals(WholeTest.all(busy)));
        DUE.is("eight KINDS of each", told, 16);
        for (int i = 8; i < 20; i++) {
            DUE.is("LINE " + i, x.line(9, Programs.SET, 0, i, 0), i < 16 ? i : -1);
        }
        DUE.is("look(13)", x.look(13), 24);
    }

    /** "A TASK that is not GOING or WAITING begins with a FUNCTION that is told ..: true; false if it can't be". */
    private static void start() {
        GrowingStacks x = many();
        String before = WholeTest.all(x);
        for (int t : ODD) {
            for (int mode : ODD) {
                if (!within(t, 3, 5) || !within(mode, 0, 1)) {
                    DUE.no("start(" + t + ", 1, 0, " + mode + ")", x.start(t, 1, 0, mode));
                }
            }
        }
        for (int f : ODD) {
            if (!within(f, 0, 4)) {
                DUE.no("start(5, " + f + ", 0, 0)", x.start(5, f, 0, 0));
                DUE.no("start(3, " + f + ", 0, 1)", x.start(3, f, 0, 1));
            }
        }
        DUE.yes("nothing begins", before.equals(WholeTest.all(x)));
        for (int a : ODD) {
            GrowingStacks y = new GrowingStacks();
            Programs.same(y, 0, 1);
            DUE.yes("start(5, 0, " + a + ", 0)", y.start(5, 0, a, 0));
            DUE.slots(y, 5, 0, a);
            y.step(5, 1);
            DUE.is("RESULT", y.task(5, 2), a);
        }
    }

    /** The same of TASKS that are none, DONE and OUT: they begin anew, with nothing of what was. */
    private static void startAgain() {
        for (int t = 3; t <= 5; t++) {
            for (int mode = 0; mode < 2; mode++) {
                GrowingStacks x = many();
                int steps = x.count(2);
                DUE.yes("start(" + t + ", 1, 8, " + mode + ")", x.start(t, 1, 8, mode));
                int[] due = {1, mode, 0, 0, 1, 10, 1, 16, -1, 0, 1, 0, 1, 0, 0, 0, 0, 0, 10};
                for (int what = 0; what <= 18; what++) {
                    DUE.is("task(" + t + ", " + what + ")", x.task(t, what), due[what]);
                }
                DUE.is("what all made stays", x.count(2), steps);
                DUE.no("GOING: start(" + t + ", 1, 8, " + mode + ")", x.start(t, 1, 8, mode));
            }
        }
    }

    /** "false if .. there is no gap of FIRST WORDS": 64 are enough, 63 are not. */
    private static void startWithoutAGap() {
        for (int more = 0; more <= 1; more++) {
            GrowingStacks x = new GrowingStacks();
            x.set(0, 64);
            x.set(3, 64 + more);
            Programs.through(x, 0, 8, 1);
            Programs.deepOf(x, 1, 64 + more);
            Programs.forever(x, 9, 8);
            Programs.same(x, 8, 1);
            x.start(3, 8, 5, 0);
            x.step(3, 1);
            x.start(0, 0, 5, 1);
            x.step(0, 1);
            DUE.piece(x, 0, 1, 64, 64 + more, 10, 0);
            x.start(1, 9, 0, 1);
            x.step(1, 28 * 6 + 5);
            DUE.gaps(x, 1984 + more, 64 - more);
            String before = WholeTest.all(x);
            DUE.is("start(3, 8, 5, 1)", x.start(3, 8, 5, 1), more == 0);
            DUE.is("DONE stays DONE", x.task(3, 0), more == 0 ? 1 : 3);
            if (more == 1) {
                DUE.yes("nothing begins", before.equals(WholeTest.all(x)));
            }
            DUE.no("start(4, 8, 5, 0)", x.start(4, 8, 5, 0));
            DUE.is("none stays none", x.task(4, 0), 0);
            x.stop(0);
            DUE.yes("start(4, 8, 5, 0)", x.start(4, 8, 5, 0));
        }
    }

    /** "n STEPS (1 .. 200): how many it made ..). NONE if n can't be, or there is none such." */
    private static void step() {
        GrowingStacks x = many();
        String before = WholeTest.all(x);
        for (int t : ODD) {
            for (int n : ODD) {
                boolean can = within(t, 0, 5) && within(n, 1, 200);
                if (!can || t > 2) {
                    DUE.is("step(" + t + ", " + n + ")", x.step(t, n), can ? 0 : -1);
                }
            }
        }
        DUE.yes("no STEP is made", before.equals(WholeTest.all(x)));
        DUE.is("WAITING: step(2, 200)", x.step(2, 200), 200);
        DUE.is("GOING: step(1, 200)", x.step(1, 200), 200);
        DUE.is("step(1, 1)", x.step(1, 1), 1);
        DUE.is("STEPS", x.task(1, 3), 203);
        DUE.is("STEPS of another one", x.task(2, 3), 201);
    }

    /** "(fewer, as it is DONE or OUT)". */
    private static void stepFewer() {
        GrowingStacks x = new GrowingStacks();
        Programs.sum(x, 0);
        Programs.forever(x, 1, 8);
        for (int n = 20; n <= 22; n++) {
            x.start(0, 0, 3, 0);
            DUE.is("21 STEPS: step(0, " + n + ")", x.step(0, n), Math.min(n, 21));
            DUE.is("state", x.task(0, 0), n < 21 ? 1 : 3);
            x.stop(0);
        }
        for (int n = 101; n <= 103; n++) {
            x.start(0, 1, 0, 0);
            DUE.is("OUT by STEP 102: step(0, " + n + ")", x.step(0, n), Math.min(n, 102));
            DUE.is("state", x.task(0, 0), n < 102 ? 1 : 4);
            DUE.is("STEPS", x.task(0, 3), Math.min(n, 102));
            x.stop(0);
        }
    }

    /** "n times (1 .. 100) each TASK ..: how many STEPS these were. NONE if n can't be." */
    private static void round() {
        GrowingStacks x = many();
        String before = WholeTest.all(x);
        for (int n : ODD) {
            if (!within(n, 1, 100)) {
                DUE.is("round(" + n + ")", x.round(n), -1);
            }
        }
        DUE.yes("no STEP is made", before.equals(WholeTest.all(x)));
        // TASK 0: two STEPS and one that RETURNS, TASK 1 and 2 without an end
        DUE.is("round(1)", x.round(1), 3);
        DUE.is("round(100)", x.round(100), 200 + 2);
        DUE.is("task(0, 0)", x.task(0, 0), 3);
        DUE.is("STEPS of TASK 1", x.task(1, 3), 2 + 101);
        DUE.is("STEPS of TASK 2", x.task(2, 3), 1 + 101);
        x.stop(1);
        x.stop(2);
        DUE.is("of none: round(100)", x.round(100), 0);
        DUE.is("of none: round(101)", x.round(101), -1);
    }

    /** "each TASK, by numbers, that is GOING or WAITING makes one STEP": so a lower one takes the SIDE first. */
    private static void roundByNumbers() {
        GrowingStacks x = new GrowingStacks();
        Programs.foreign(x, 0, 1, 5, 1);
        Programs.same(x, 1, 1);
        x.start(5, 0, 5, 0);
        x.start(2, 0, 2, 0);
        x.start(4, 0, 4, 0);
        // by rounds: 2 has the SIDE, gives it back, and 4 takes it by the same round; then 5
        int[][] due = {{0, -1, -1}, {-1, 0, -1}, {-1, -1, 0}, {-1, -1, -1}};
        for (int i = 0; i < 4; i++) {
            x.round(1);
            for (int k = 0; k < 3; k++) {
                int t = new int[] {2, 4, 5}[k];
                DUE.is("round " + i + ": SIDE of TASK " + t, x.task(t, 8), due[i][k]);
            }
        }
        DUE.is("count(10)", x.count(10), 1 + 1 + 1);
    }

    /** "A TASK is none any more (all that it has is given back): true; false if it is none, or there is none such." */
    private static void stop() {
        GrowingStacks x = many();
        String before = WholeTest.all(x);
        for (int t : ODD) {
            if (!within(t, 0, 4)) {
                DUE.no("stop(" + t + ")", x.stop(t));
            }
        }
        DUE.yes("nothing", before.equals(WholeTest.all(x)));
        int lines = x.look(14);
        int steps = x.count(2);
        int words = x.look(6);
        for (int t = 4; t >= 0; t--) {
            int its = x.task(t, 7);
            DUE.yes("stop(" + t + ")", x.stop(t));
            words -= its;
            DUE.is("look(6)", x.look(6), words);
            for (int what = 0; what <= 18; what++) {
                boolean none = what == 8 || what == 10 || what == 11;
                DUE.is("none: task(" + t + ", " + what + ")", x.task(t, what), none ? -1 : 0);
            }
            DUE.piece(x, t, 0, -1, -1, -1, -1);
            DUE.is("frame(" + t + ", 0, 0)", x.frame(t, 0, 0), -1);
            DUE.no("again: stop(" + t + ")", x.stop(t));
        }
        DUE.gaps(x, 0, 2048);
        DUE.is("look(9)", x.look(9), 0);
        DUE.is("THE LOG stays", x.look(14), lines);
        DUE.is("what was counted stays", x.count(2), steps);
        DUE.is("DONE ones, too", x.count(0), 1);
    }

    /** "QUIET is told to a TASK that is GOING or WAITING: true if its STACK is made smaller, or a SPARE given back by it." */
    private static void quiet() {
        GrowingStacks x = many();
        String before = WholeTest.all(x);
        for (int t : ODD) {
            if (t != 0) {
                DUE.no("quiet(" + t + ")", x.quiet(t));
            }
        }
        DUE.yes("nothing", before.equals(WholeTest.all(x)));
        int steps = x.count(2);
        DUE.yes("a SPARE: quiet(0)", x.quiet(0));
        DUE.no("none any more: quiet(0)", x.quiet(0));
        DUE.is("it is no STEP", x.count(2), steps);
    }

    /** "JOINED: true; false if it is not LINKED and GOING or WAITING, or there is no gap." */
    private static void join() {
        GrowingStacks x = many();
        String before = WholeTest.all(x);
        for (int t : ODD) {
            if (t != 0 && t != 2) {
                DUE.no("join(" + t + ")", x.join(t));
            }
        }
        DUE.yes("nothing", before.equals(WholeTest.all(x)));
        DUE.yes("GOING: join(0)", x.join(0));
        DUE.no("COPIED now: join(0)", x.join(0));
        DUE.yes("WAITING: join(2)", x.join(2));
        DUE.is("WAITING still", x.task(2, 0), 2);
        DUE.no("COPIED now: join(2)", x.join(2));
        GrowingStacks y = new GrowingStacks();
        Programs.same(y, 0, 1);
        Programs.forever(y, 1, 8);
        y.start(0, 0, 5, 1);
        y.start(1, 1, 5, 1);
        y.step(0, 1);
        y.step(1, 200);
        DUE.no("LINKED, but DONE: join(0)", y.join(0));
        DUE.is("MODE", y.task(0, 1), 1);
        DUE.no("LINKED, but OUT: join(1)", y.join(1));
        DUE.is("MODE", y.task(1, 1), 1);
    }

    /** "COMPACT: how many PIECES lie elsewhere by it." */
    private static void compact() {
        GrowingStacks x = many();
        // TASK 0 at 0 and its SPARE at 16, TASK 1 at 32 and TASK 2 at 48
        DUE.is("compact()", x.compact(), 0);
        DUE.gaps(x, 64, 1984);
        x.quiet(0);
        DUE.gaps(x, 16, 16, 64, 1984);
        DUE.is("compact()", x.compact(), 2);
        DUE.gaps(x, 48, 2000);
        DUE.is("TASK 1 lies at", x.piece(1, 0, 0), 16);
        DUE.is("TASK 2 lies at", x.piece(2, 0, 0), 32);
        DUE.is("compact()", x.compact(), 0);
    }

    /** "DEEP; -2 ENDLESS. NONE if there is none such, or it is not told." "NONE likewise." */
    private static void deepAndNeed() {
        GrowingStacks x = many();
        for (int f : ODD) {
            int deep = f == 0 ? 20 : f == 1 ? 10 : f == 2 ? 11 : f == 3 ? -2 : f == 4 ? 6 : -1;
            int need = f == 0 || f == 1 || f == 3 ? 10 : f == 2 ? 5 : f == 4 ? 6 : -1;
            DUE.is("deep(" + f + ")", x.deep(f), deep);
            DUE.is("need(" + f + ")", x.need(f), need);
        }
    }

    /** "NEED of a call of a FUNCTION out of a FRAME that is not COVERED": whatever the last FRAME of a TASK is. */
    private static void needOutOfAFrameThatIsNotCovered() {
        GrowingStacks x = new GrowingStacks();
        Programs.chain(x, 0, 3, 8);
        x.start(0, 0, 5, 0);
        x.step(0, 1);
        DUE.is("COVERED", x.frame(0, 1, 3), 1);
        for (int f = 0; f < 4; f++) {
            DUE.is("need(" + f + ")", x.need(f), 40 - 10 * f);
        }
    }

    /** "(None: 0, but for NONE as said ..)". */
    private static void taskNone() {
        GrowingStacks x = new GrowingStacks();
        for (int t = 0; t < 6; t++) {
            for (int what = 0; what <= 18; what++) {
                boolean none = what == 8 || what == 10 || what == 11;
                DUE.is("task(" + t + ", " + what + ")", x.task(t, what), none ? -1 : 0);
            }
        }
    }

    /** "DONE, OUT likewise, but 0 to 3, 12 to 18 stay". */
    private static void taskDoneAndOut() {
        GrowingStacks x = new GrowingStacks();
        x.set(0, 8);
        x.set(2, 0);
        // A COPIED one that grows, is made smaller, and is DONE, or OUT by its SIDE
        x.function(0, 2, 0);
        x.line(0, Programs.CALL, 1, 0, 1);
        x.line(0, Programs.QUIET, 0, 0, 0);
        x.line(0, Programs.CALL, 2, 0, 0);
        x.line(0, Programs.RETURN, 1, 0, 0);
        Programs.sum(x, 1);
        Programs.foreign(x, 2, 1, 40, -1);
        x.start(1, 0, 2, 0);
        DUE.is("step(1, 200)", x.step(1, 200), 1 + 15 + 1 + 1 + 2 + 1);
        // 4 WORDS in 8; 9 in 16; 19 in 32: 4, then 14 came over, then 4 to 16
        int[] done = {3, 0, 3, 21, 0, 0, 0, 0, -1, 0, -1, -1, 5, 2, 22, 0, 1, 0, 19};
        for (int what = 0; what <= 18; what++) {
            DUE.is("DONE: task(1, " + what + ")", x.task(1, what), done[what]);
        }
        x.set(5, 39);
        x.start(1, 0, 2, 0);
        x.step(1, 200);
        int[] out = {4, 0, 0, 19, 0, 0, 0, 0, -1, 0, -1, -1, 5, 2, 22, 0, 1, 0, 19};
        for (int what = 0; what <= 18; what++) {
            DUE.is("OUT: task(1, " + what + ")", x.task(1, what), out[what]);
        }
        x.set(5, 60);
        // LINKED: 4 WORDS; 5, 5 and 5 in PIECES of 8; the SPARE for FUNCTION 2
        x.function(0, 2, 0);
        x.line(0, Programs.CALL, 1, 0, 1);
        x.line(0, Programs.CALL, 1, 0, 1);
        x.line(0, Programs.RETURN, 1, 0, 0);
        x.start(1, 0, 2, 1);
        DUE.is("step(1, 200)", x.step(1, 200), 1 + 15 + 1 + 15 + 1);
        int[] linked = {3, 1, 3, 33, 0, 0, 0, 0, -1, 0, -1, -1, 7, 0, 0, 5, 0, 1, 19};
        for (int what = 0; what <= 18; what++) {
            DUE.is("LINKED: task(1, " + what + ")", x.task(1, what), linked[what]);
        }
    }

    /** "NONE if there is none such, or another what." */
    private static void taskWhat() {
        GrowingStacks x = many();
        for (int t : ODD) {
            for (int what : ODD) {
                if (!within(t, 0, 5) || !within(what, 0, 18)) {
                    DUE.is("task(" + t + ", " + what + ")", x.task(t, what), -1);
                }
            }
        }
        int[] due = {1, 0, 0, 2, 2, 11, 1, 16, 0, 10, 4, 1, 2, 0, 0, 0, 0, 0, 11};
        for (int what = 0; what <= 18; what++) {
            DUE.is("task(1, " + what + ")", x.task(1, what), due[what]);
        }
    }

    /** "Of the i-th FRAME of a TASK (0: the first) ... NONE if there is none such, or another what." */
    private static void frame() {
        GrowingStacks x = many();
        int[] frames = {1, 2, 1, 0, 0, 0};
        for (int t : ODD) {
            for (int i : ODD) {
                if (!within(t, 0, 5) || !within(i, 0, frames[t] - 1)) {
                    for (int what = 0; what < 8; what++) {
                        DUE.is("frame(" + t + ", " + i + ", " + what + ")", x.frame(t, i, what), -1);
                    }
                }
            }
        }
        for (int what : ODD) {
            if (!within(what, 0, 7)) {
                DUE.is("frame(1, 1, " + what + ")", x.frame(1, 1, what), -1);
            }
        }
        int[][] due = {{2, 32, 0, 0, 1, 0, -1, 0}, {4, 37, 0, 0, 1, 1, 32, 32 * 2 + 1 + 2048}};
        for (int i = 0; i < 2; i++) {
            for (int what = 0; what < 8; what++) {
                DUE.is("frame(1, " + i + ", " + what + ")", x.frame(1, i, what), due[i][what]);
            }
        }
    }

    /** "NONE - 999999999 if there is none such, or another what." */
    private static void slot() {
        GrowingStacks x = many();
        int[] frames = {1, 2, 1, 0, 0, 0};
        int[] sizes = {8, 4, 3};
        for (int t : ODD) {
            for (int i : ODD) {
                if (!within(t, 0, 5) || !within(i, 0, frames[t] - 1)) {
                    for (int what = 0; what < 4; what++) {
                        DUE.is("slot(" + t + ", " + i + ", 0, " + what + ")", x.slot(t, i, 0, what), Programs.NO_WORD);
                    }
                }
            }
        }
        for (int t = 0; t < 3; t++) {
            for (int s : ODD) {
                for (int what : ODD) {
                    boolean there = within(s, 0, sizes[t] - 1) && within(what, 0, 3);
                    int word = x.slot(t, frames[t] - 1, s, what);
                    DUE.is("slot(" + t + ", last, " + s + ", " + what + ") is told", word != Programs.NO_WORD, there);
                }
            }
        }
        int[][] due = {{0, 6, -1, -1}, {0, 0, -1, -1}, {1, 42, 1, 3}, {0, 0, -1, -1}};
        for (int s = 0; s < 4; s++) {
            for (int what = 0; what < 4; what++) {
                DUE.is("slot(1, 1, " + s + ", " + what + ")", x.slot(1, 1, s, what), due[s][what]);
            }
        }
    }

    /** "2 to which FRAME it points (NONE: a NUMBER, NOWHERE), 3 to which SLOT (likewise)". */
    private static void slotThatLooksLikeAPlace() {
        GrowingStacks x = new GrowingStacks();
        x.set(0, 64);
        x.function(0, 4, 0b1100);
        x.line(0, Programs.SET, 1, 2, 0);
        x.line(0, Programs.POINT, 2, 1, 0);
        x.line(0, Programs.CALL, 0, 0, 0);
        x.start(0, 0, 3, 0);
        x.step(0, 8);
        for (int i = 0; i < 3; i++) {
            int place = 6 * i;
            int[][] due = {{0, 3, -1, -1}, {0, 2, -1, -1}, {1, place + 3, i, 1}, {1, -1, -1, -1}};
            for (int s = 0; s < 4; s++) {
                for (int what = 0; what < 4; what++) {
                    DUE.is("slot(0, " + i + ", " + s + ", " + what + ")", x.slot(0, i, s, what), due[s][what]);
                }
            }
        }
    }

    /** "Of the i-th PIECE of a TASK (the SPARE behind all) ... NONE if there is none such, or another what." */
    private static void piece() {
        GrowingStacks x = many();
        int[] pieces = {2, 1, 1, 0, 0, 0};
        for (int t : ODD) {
            for (int i : ODD) {
                for (int what : ODD) {
                    if (!within(t, 0, 5) || !within(i, 0, pieces[t] - 1) || !within(what, 0, 3)) {
                        DUE.is("piece(" + t + ", " + i + ", " + what + ")", x.piece(t, i, what), -1);
                    }
                }
            }
        }
        DUE.piece(x, 0, 0, 0, 16, 10, 0);
        DUE.piece(x, 0, 1, 16, 16, 0, 1);
        DUE.piece(x, 1, 0, 32, 16, 11, 0);
        DUE.piece(x, 2, 0, 48, 16, 5, 0);
        x.stop(1);
        x.start(1, 0, 5, 1);
        x.step(1, 1);
        // its second PIECE lies behind, its first one before those of others
        DUE.piece(x, 1, 0, 32, 16, 10, 0);
        DUE.piece(x, 1, 1, 64, 16, 10, 0);
        DUE.piece(x, 1, 2, -1, -1, -1, -1);
    }

    /** "i NONE: how many. NONE if there is none such, or another what." */
    private static void gap() {
        GrowingStacks x = many();
        x.quiet(0);
        DUE.gaps(x, 16, 16, 64, 1984);
        for (int i : ODD) {
            for (int what : ODD) {
                int due = i == -1 ? 2 : !within(i, 0, 1) || !within(what, 0, 1) ? -1
                        : i == 0 ? 16 : what == 0 ? 64 : 1984;
                DUE.is("gap(" + i + ", " + what + ")", x.gap(i, what), due);
            }
        }
    }

    /** "NONE - 999999999 as said, or if there is none such, or another what." */
    private static void endless() {
        GrowingStacks x = many();
        for (int f : ODD) {
            for (int what : ODD) {
                if (!within(f, 0, 4) || !within(what, 0, 2)) {
                    DUE.is("endless(" + f + ", 5, " + what + ")", x.endless(f, 5, what), Programs.NO_WORD);
                }
            }
        }
        int[] due = {5, 5, 20};
        for (int what = 0; what < 3; what++) {
            DUE.is("endless(0, 5, " + what + ")", x.endless(0, 5, what), due[what]);
            DUE.is("endless(3, 5, " + what + ")", x.endless(3, 5, what), Programs.NO_WORD);
        }
        DUE.is("a RESULT may be NONE: endless(1, -1, 0)", x.endless(1, -1, 0), -1);
    }

    /** "LAND (n 1 .. 200) ... NONE if one can't be." */
    private static void land() {
        GrowingStacks x = many();
        String before = WholeTest.all(x);
        for (int t : ODD) {
            for (int n : ODD) {
                if (!within(t, 0, 5) || !within(n, 1, 200)) {
                    DUE.is("land(" + t + ", " + n + ", 0)", x.land(t, n, 0), -1);
                    DUE.is("land(" + t + ", " + n + ", 4)", x.land(t, n, 4), -1);
                }
            }
        }
        for (int what : ODD) {
            if (!within(what, 0, 4)) {
                DUE.is("land(0, 1, " + what + ")", x.land(0, 1, what), -1);
            }
        }
        int[][] due = {{0, 1, 1, 2, 20, 32, 0}, {0, 200, 3, 0, 0, 0, 0}, {1, 1, 1, 2, 11, 16, 0}, {1, 200, 1, 2, 11, 16, 0},
            {2, 200, 2, 1, 5, 16, 0}, {3, 1, 3, 0, 0, 0, 0}, {4, 1, 4, 0, 0, 0, 10 + 30 + 60 + 120 + 250 + 510}};
        for (int[] d : due) {
            for (int what = 0; what < 5; what++) {
                DUE.is("land(" + d[0] + ", " + d[1] + ", " + what + ")", x.land(d[0], d[1], what), d[2 + what]);
            }
        }
        DUE.yes("nothing of that stays", before.equals(WholeTest.all(x)));
    }

    /** "NONE if one can't be, or there is none such." */
    private static void alone() {
        GrowingStacks x = many();
        for (int f : ODD) {
            for (int mode : ODD) {
                if (!within(f, 0, 4) || !within(mode, 0, 1)) {
                    DUE.is("alone(" + f + ", 5, " + mode + ", 0)", x.alone(f, 5, mode, 0), -1);
                    DUE.is("alone(" + f + ", 5, " + mode + ", 6)", x.alone(f, 5, mode, 6), -1);
                }
            }
        }
        for (int what : ODD) {
            if (!within(what, 0, 6)) {
                DUE.is("alone(0, 5, 0, " + what + ")", x.alone(0, 5, 0, what), -1);
            }
        }
        int[][] due = {{3, 5, 3, 10, 0, 32, 32}, {3, 5, 3, 0, 1, 32, 32}};
        for (int mode = 0; mode < 2; mode++) {
            for (int what = 0; what < 7; what++) {
                DUE.is("alone(0, 5, " + mode + ", " + what + ")", x.alone(0, 5, mode, what), due[mode][what]);
            }
        }
    }

    /** "Of line i of THE LOG (0: the latest) ... NONE if there is none such, or another what." */
    private static void log() {
        GrowingStacks x = new GrowingStacks();
        Programs.forever(x, 0, 8);
        x.start(4, 0, 0, 1);
        x.step(4, 3);
        for (int i : ODD) {
            for (int what : ODD) {
                int[] line = {2, 4, 16 * (3 - i), 16};
                int due = within(i, 0, 2) && within(what, 0, 3) ? line[what] : -1;
                DUE.is("log(" + i + ", " + what + ")", x.log(i, what), due);
            }
        }
        x.step(4, 47);
        DUE.is("look(14)", x.look(14), 50);
        for (int i : ODD) {
            for (int what : ODD) {
                int[] line = {2, 4, 16 * (50 - i), 16};
                int due = within(i, 0, 39) && within(what, 0, 3) ? line[what] : -1;
                DUE.is("log(" + i + ", " + what + ")", x.log(i, what), due);
            }
        }
    }

    /** "NONE for another what." */
    private static void never() {
        GrowingStacks x = many();
        for (int what : ODD) {
            DUE.is("never(" + what + ")", x.never(what), within(what, 0, 2) ? 0 : -1);
        }
    }

    /** "NONE for another what." */
    private static void count() {
        GrowingStacks x = many();
        // STEPS: 102 by TASK 4, 1, 2, 2, 1; CHECKED: 103 by TASK 4, 1, 2, 2, 1
        int[] due = {1, 1, 108, 109, 6, 980, 1, 0, 0, 0, 1, 0};
        for (int what : ODD) {
            DUE.is("count(" + what + ")", x.count(what), within(what, 0, 11) ? due[what] : -1);
        }
    }

    /** "THE IMAGE is taken (true), or gone back to (false): true; false if there is none." */
    private static void image() {
        GrowingStacks x = many();
        String before = WholeTest.all(x);
        DUE.no("there is none: image(false)", x.image(false));
        DUE.yes("nothing", before.equals(WholeTest.all(x)));
        DUE.yes("image(true)", x.image(true));
        DUE.yes("nothing", before.equals(WholeTest.all(x)));
        x.round(7);
        DUE.yes("image(false)", x.image(false));
        DUE.yes("as it was", before.equals(WholeTest.all(x)));
        GrowingStacks y = new GrowingStacks();
        String empty = WholeTest.all(y);
        DUE.yes("of a new object: image(true)", y.image(true));
        Programs.forever(y, 0, 8);
        y.start(0, 0, 0, 1);
        y.step(0, 9);
        DUE.yes("image(false)", y.image(false));
        DUE.yes("as new", empty.equals(WholeTest.all(y)));
    }

    /** "NONE for another what." */
    private static void look() {
        GrowingStacks x = many();
        // THE LOG: six moves and OUT of TASK 4, DONE of TASK 3, SPLIT and SPARE of TASK 0
        int[] due = {16, 1, 0, 40, 1, 60, 64, 4, 1984, 1, 2, 1, 5, 9, 10};
        for (int what : ODD) {
            DUE.is("look(" + what + ")", x.look(what), within(what, 0, 14) ? due[what] : -1);
        }
    }

    /** "An object is used for at most 512 calls": the last one of them is answered as the first one. */
    private static void theLastCall() {
        GrowingStacks x = new GrowingStacks();
        Programs.sum(x, 0);
        // 8 calls so far, and 126 times 4 more
        for (int i = 0; i < 126; i++) {
            DUE.yes("start(0, 0, 3, 1)", x.start(0, 0, 3, i % 2));
            DUE.is("step(0, 200)", x.step(0, 200), 21);
            DUE.is("endless(0, 9, 0)", x.endless(0, 9, 0), 45);
            DUE.is("count(0)", x.count(0), i + 1);
        }
    }
}
