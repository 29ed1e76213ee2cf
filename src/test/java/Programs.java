/** Small programs that several tests use. */
final class Programs {
    static final int SET = 0;
    static final int ADD = 1;
    static final int LESS = 2;
    static final int POINT = 3;
    static final int LOAD = 4;
    static final int STORE = 5;
    static final int CALL = 6;
    static final int JUMP = 7;
    static final int RETURN = 8;
    static final int FOREIGN = 9;
    static final int QUIET = 10;

    static final int NO_WORD = -1000000000;

    private Programs() {
    }

    /**
     * The sum of 1 .. n, FRAMES of 5 WORDS: 4 STEPS to the next call; at the bottom 3 STEPS until it
     * RETURNS, and then 2 STEPS for each caller. 6 n and 3 STEPS, n and 1 FRAMES.
     */
    static void sum(GrowingStacks x, int f) {
        sum(x, f, 3);
    }

    /** The same with FRAMES of size and 2 WORDS. */
    static void sum(GrowingStacks x, int f, int size) {
        x.function(f, size, 0);
        x.line(f, SET, 1, -1, 0);
        x.line(f, JUMP, 0, 3, 0);
        x.line(f, RETURN, 0, 0, 0);
        x.line(f, ADD, 1, 0, 1);
        x.line(f, CALL, f, 1, 2);
        x.line(f, ADD, 2, 2, 0);
        x.line(f, RETURN, 2, 0, 0);
    }

    /** Calls itself without an end, a FRAME more by each STEP. */
    static void forever(GrowingStacks x, int f, int size) {
        x.function(f, size, 0);
        x.line(f, CALL, f, 0, 0);
    }

    /** RETURNS what it was called with, by one STEP. */
    static void same(GrowingStacks x, int f, int size) {
        x.function(f, size, 0);
        x.line(f, RETURN, 0, 0, 0);
    }

    /** Calls another one with its number and RETURNS that, by one STEP each. */
    static void through(GrowingStacks x, int f, int size, int called) {
        x.function(f, size, 0);
        x.line(f, CALL, called, 0, 0);
        x.line(f, RETURN, 0, 0, 0);
    }

    /** FUNCTIONS from .. to, each calls the next one; the last one RETURNS what all were called with. */
    static void chain(GrowingStacks x, int from, int to, int size) {
        for (int f = from; f < to; f++) {
            through(x, f, size, f + 1);
        }
        same(x, to, size);
    }

    /** FUNCTIONS from f on, each calls the next one; DEEP of f is so many WORDS (3 .. 80). */
    static void deepOf(GrowingStacks x, int f, int words) {
        int left = words;
        int at = f;
        while (left > 10) {
            int frame = left >= 13 ? 10 : left - 3;
            through(x, at, frame - 2, at + 1);
            left -= frame;
            at++;
        }
        same(x, at, left - 2);
    }

    /** Only told: by one STEP it RETURNS 0. */
    static void empty(GrowingStacks x, int f, int size) {
        x.function(f, size, 0);
    }

    /** Calls two others, one after the other, with its number, and RETURNS what the second one RETURNS. */
    static void both(GrowingStacks x, int f, int size, int first, int second) {
        x.function(f, size, 0);
        x.line(f, CALL, first, 0, 0);
        x.line(f, CALL, second, 0, 0);
        x.line(f, RETURN, 0, 0, 0);
    }

    /** Calls another one n times (4 STEPS each time but those of the other one); FRAMES of size and 2. */
    static void loop(GrowingStacks x, int f, int size, int called) {
        x.function(f, size, 0);
        x.line(f, SET, 1, -1, 0);
        x.line(f, CALL, called, 0, 2);
        x.line(f, ADD, 0, 0, 1);
        x.line(f, JUMP, 0, 1, 0);
        x.line(f, RETURN, 2, 0, 0);
    }

    /** A FOREIGN call of some WORDS with its number, which it RETURNS then. */
    static void foreign(GrowingStacks x, int f, int size, int words, int calledBack) {
        x.function(f, size, 0);
        x.line(f, FOREIGN, words, calledBack, 0);
        x.line(f, RETURN, 0, 0, 0);
    }
}
