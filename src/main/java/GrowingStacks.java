import java.util.Arrays;

/**
 * Stacks that grow: small programs of functions whose frames lie in one memory.
 * The document of this class says what each call answers; words in capitals are its terms.
 */
public final class GrowingStacks {
    public static final int NONE = -1;

    /** What is answered where NONE itself could be a WORD or a RESULT. */
    private static final int NO_WORD = NONE - 999999999;

    private static final int MEMORY_WORDS = 2048;
    private static final int FUNCTIONS = 10;
    private static final int MOST_SLOTS = 8;
    private static final int MOST_LINES = 16;
    private static final int TASKS = 6;
    private static final int LOG_LINES = 40;

    /** No PIECE has fewer than 8 WORDS, so that the memory can't hold more of them. */
    private static final int MOST_PIECES = 256;

    /** FIRST has 8 WORDS at least: fewer doublings than this go beyond the whole memory. */
    private static final int MOST_DOUBLINGS = 16;

    private static final int STEPS_IN_THOUGHT = 2000;

    /**
     * Each call and each RETURN is a STEP: what is DONE by 2000 STEPS never has more than
     * 1000 FRAMES at once, of 10 WORDS each; so much room is as good as an ENDLESS stack.
     */
    private static final int ENDLESS_WORDS = 10000;

    /** More than all FOREIGN calls that 2000 STEPS can begin. */
    private static final int ENDLESS_SIDE = 1000000;

    private static final int ABSENT = 0;
    private static final int GOING = 1;
    private static final int WAITING = 2;
    private static final int DONE = 3;
    private static final int OUT = 4;

    private static final int COPIED = 0;
    private static final int LINKED = 1;

    private static final int FIRST = 0;
    private static final int HOT = 1;
    private static final int MERGE = 2;
    private static final int RED = 3;
    private static final int SIDES = 4;
    private static final int SIDE = 5;
    private static final int SETTINGS = 6;
    private static final int[] LEAST = {8, 0, 0, 10, 1, 10};
    private static final int[] GREATEST = {64, 1, 1, 80, 3, 90};
    private static final int[] AT_FIRST = {16, 1, 1, 40, 1, 60};

    private static final int SET = 0;
    private static final int ADD = 1;
    private static final int LESS = 2;
    private static final int POINT = 3;
    private static final int LOAD = 4;
    private static final int STORE = 5;
    private static final int CALL = 6;
    private static final int JUMP = 7;
    private static final int RETURN = 8;
    private static final int FOREIGN = 9;
    private static final int QUIET = 10;

    /** The parts of a LINE. */
    private static final int KIND = 0;
    private static final int A = 1;
    private static final int B = 2;
    private static final int C = 3;
    private static final int PARTS = 4;

    /** A FRAME: BASE, BACK, then its SLOTS. */
    private static final int BACK = 1;
    private static final int SLOTS = 2;

    /** BACK: five bits of the LINE, the FUNCTION above them, and two marks. */
    private static final int LINE_BITS = 31;
    private static final int WAY_BITS = 1023;
    private static final int COVERED = 1024;
    private static final int CALLED_BACK = 2048;

    private static final int LOG_GREATER = 0;
    private static final int LOG_SMALLER = 1;
    private static final int LOG_SPLIT = 2;
    private static final int LOG_SPARE = 3;
    private static final int LOG_AGAIN = 4;
    private static final int LOG_GIVEN_BACK = 5;
    private static final int LOG_JOINED = 6;
    private static final int LOG_ELSEWHERE = 7;
    private static final int LOG_OUT = 8;
    private static final int LOG_DONE = 9;

    /** What is counted, of each TASK and of all, by the numbers of count(). */
    private static final int SUM_DONE = 0;
    private static final int SUM_OUT = 1;
    private static final int SUM_STEPS = 2;
    private static final int SUM_CHECKED = 3;
    private static final int SUM_GREATER = 4;
    private static final int SUM_CAME_OVER = 5;
    private static final int SUM_SPLITS = 6;
    private static final int SUM_SMALLER = 7;
    private static final int SUM_AGAIN = 8;
    private static final int SUM_FOREIGN = 9;
    private static final int SUM_WAITED = 10;
    private static final int SUM_COVERED = 11;
    private static final int SUMS = 12;

    private static final int DEEP_ENDLESS = -2;

    private final World now;
    private final Machine machine;
    private final Guard guard;
    private final World thought;
    private final Machine thinker;
    private final World kept;
    private boolean imageTaken;

    public GrowingStacks() {
        Program program = new Program();
        World live = new World(MEMORY_WORDS, program);
        // No thought tells a FUNCTION, so the program itself can be thought with.
        World imagined = new World(ENDLESS_WORDS, program);
        now = live;
        machine = new Machine(live);
        guard = new Guard(live);
        thought = imagined;
        thinker = new Machine(imagined);
        kept = new World(MEMORY_WORDS, new Program());
        imageTaken = false;
    }

    public boolean set(int what, int v) {
        if (now.busy() || what < 0 || what >= SETTINGS || v < LEAST[what] || v > GREATEST[what]) {
            return false;
        }
        now.settings[what] = v;
        return true;
    }

    public boolean function(int f, int size, int pointers) {
        if (now.busy() || !isFunction(f) || size < 0 || size > MOST_SLOTS) {
            return false;
        }
        if (pointers < 0 || pointers >= 1 << size) {
            return false;
        }
        now.program.tell(f, size, pointers);
        return true;
    }

    public int line(int f, int kind, int a, int b, int c) {
        if (now.busy() || !now.program.told(f) || !now.program.allows(f, kind, a, b, c)) {
            return NONE;
        }
        return now.program.append(f, kind, a, b, c);
    }

    public boolean start(int task, int f, int a, int mode) {
        if (!isTask(task) || now.tasks[task].on() || !now.program.told(f)) {
            return false;
        }
        return (mode == COPIED || mode == LINKED) && machine.begin(now.tasks[task], f, a, mode);
    }

    public int step(int task, int n) {
        if (!isTask(task) || n < 1 || n > 200) {
            return NONE;
        }
        Task t = now.tasks[task];
        int made = 0;
        for (int i = 0; i < n && t.on(); i++) {
            machine.makeStep(t);
            made++;
        }
        if (made > 0 && t.state == DONE) {
            compareResults(t, thinkEndless(t.startFunction, t.startNumber));
        }
        return made;
    }

    public int round(int n) {
        if (n < 1 || n > 100) {
            return NONE;
        }
        int made = 0;
        for (int i = 0; i < n; i++) {
            for (Task t : now.tasks) {
                if (t.on()) {
                    machine.makeStep(t);
                    made++;
                    if (t.state == DONE) {
                        compareResults(t, thinkEndless(t.startFunction, t.startNumber));
                    }
                }
            }
        }
        return made;
    }

    public boolean stop(int task) {
        if (!isTask(task) || now.tasks[task].state == ABSENT) {
            return false;
        }
        now.releasePieces(now.tasks[task]);
        now.tasks[task].clear();
        return true;
    }

    public boolean quiet(int task) {
        return isTask(task) && now.tasks[task].on() && machine.mover.makeSmaller(now.tasks[task]);
    }

    public boolean join(int task) {
        if (!isTask(task) || !now.tasks[task].on() || now.tasks[task].mode != LINKED) {
            return false;
        }
        return machine.mover.joinPieces(now.tasks[task]);
    }

    public int compact() {
        return machine.mover.gather();
    }

    public int deep(int f) {
        return now.program.told(f) ? now.program.deepOf(f) : NONE;
    }

    public int need(int f) {
        return now.program.told(f) ? now.needOf(f) : NONE;
    }

    public int task(int task, int what) {
        if (!isTask(task)) {
            return NONE;
        }
        Task t = now.tasks[task];
        switch (what) {
            case 0: return t.state;
            case 1: return t.mode;
            case 2: return t.result;
            case 3: return t.sums[SUM_STEPS];
            case 4: return t.frames;
            case 5: return t.used;
            case 6: return now.piecesOf(t);
            case 7: return now.wordsOf(t);
            case 8: return t.side;
            case 9: return t.sideUsed;
            case 10: return t.function;
            case 11: return t.line;
            case 12: return t.sums[SUM_CHECKED];
            case 13: return t.sums[SUM_GREATER];
            case 14: return t.sums[SUM_CAME_OVER];
            case 15: return t.sums[SUM_SPLITS];
            case 16: return t.sums[SUM_SMALLER];
            case 17: return t.sums[SUM_AGAIN];
            case 18: return t.most;
            default: return NONE;
        }
    }

    public int frame(int task, int i, int what) {
        if (!hasFrame(task, i)) {
            return NONE;
        }
        Walk w = now.walk;
        w.toFrame(now.tasks[task], i);
        int back = now.memory.word(w.place + BACK);
        switch (what) {
            case 0: return w.function;
            case 1: return w.place;
            case 2: return now.pieces.indexOf(now.pieces.holding(w.place));
            case 3: return (back & COVERED) != 0 ? 1 : 0;
            case 4: return w.line;
            case 5: return (back & CALLED_BACK) != 0 ? 1 : 0;
            case 6: return now.memory.word(w.place);
            case 7: return back;
            default: return NONE;
        }
    }

    public int slot(int task, int i, int s, int what) {
        if (!hasFrame(task, i) || what < 0 || what > 3) {
            return NO_WORD;
        }
        now.walk.toFrame(now.tasks[task], i);
        int f = now.walk.function;
        if (!now.program.hasSlot(f, s)) {
            return NO_WORD;
        }
        boolean pointer = now.program.isPointer(f, s);
        int word = now.memory.word(now.walk.place + SLOTS + s);
        if (what == 0) {
            return pointer ? 1 : 0;
        }
        if (what == 1) {
            return word;
        }
        int frame = pointer && word != NONE ? now.walk.toPlace(now.tasks[task], word, now.program) : NONE;
        if (frame == NONE || what == 2) {
            return frame;
        }
        return word - now.walk.place - SLOTS;
    }

    public int piece(int task, int i, int what) {
        if (!isTask(task) || i < 0) {
            return NONE;
        }
        Task t = now.tasks[task];
        int id = now.pieceOf(t, i);
        if (id == NONE) {
            return NONE;
        }
        switch (what) {
            case 0: return now.pieces.placeOf(id);
            case 1: return now.pieces.wordsOf(id);
            case 2: return now.pieces.usedOf(id);
            case 3: return id == t.spare ? 1 : 0;
            default: return NONE;
        }
    }

    public int gap(int i, int what) {
        // How many there are is no fact of one GAP: what counts for nothing there.
        if (i == NONE) {
            return now.pieces.gaps();
        }
        return what == 0 || what == 1 ? now.pieces.gapFact(i, what) : NONE;
    }

    public int endless(int f, int a, int what) {
        if (!now.program.told(f) || what < 0 || what > 2) {
            return NO_WORD;
        }
        Task t = thinkEndless(f, a);
        if (t.state != DONE) {
            return NO_WORD;
        }
        if (what == 0) {
            return t.result;
        }
        return what == 1 ? t.sums[SUM_STEPS] : t.most;
    }

    public int land(int task, int n, int what) {
        if (!isTask(task) || n < 1 || n > 200 || what < 0 || what > 4) {
            return NONE;
        }
        thought.takeOver(now);
        Task t = thought.tasks[task];
        for (int i = 0; i < n && t.on(); i++) {
            thinker.makeStep(t);
        }
        switch (what) {
            case 0: return t.state;
            case 1: return t.frames;
            case 2: return t.used;
            case 3: return thought.wordsOf(t);
            default: return t.sums[SUM_CAME_OVER];
        }
    }

    public int alone(int f, int a, int mode, int what) {
        if (!now.program.told(f) || mode < COPIED || mode > LINKED || what < 0 || what > 6) {
            return NONE;
        }
        int mostWords = thinkAlone(f, a, mode, what == 6 ? GREATEST[FIRST] : now.settings[FIRST]);
        Task t = thought.tasks[0];
        switch (what) {
            case 0: return t.state;
            case 1: return t.sums[SUM_STEPS];
            case 2: return t.sums[SUM_CHECKED];
            case 3: return t.sums[SUM_CAME_OVER];
            case 4: return t.sums[SUM_SPLITS];
            case 5: return mostWords;
            default: return leastFirstFor(t.reach);
        }
    }

    public int log(int i, int what) {
        return now.log.read(i, what);
    }

    public int never(int what) {
        if (what < 0 || what > 2) {
            return NONE;
        }
        if (what == 0) {
            return now.otherResults;
        }
        return what == 1 ? guard.wrongPlaces() : guard.wrongFrames();
    }

    public int count(int what) {
        return what >= 0 && what < SUMS ? now.sums[what] : NONE;
    }

    public boolean image(boolean taken) {
        if (taken) {
            kept.program.takeOver(now.program);
            kept.takeOver(now);
            imageTaken = true;
        } else if (imageTaken) {
            now.program.takeOver(kept.program);
            now.takeOver(kept);
        }
        return imageTaken;
    }

    public int look(int what) {
        if (what >= 0 && what < SETTINGS) {
            return now.settings[what];
        }
        switch (what) {
            case 6: return now.pieces.taken;
            case 7: return now.pieces.number;
            case 8: return now.pieces.greatestGap();
            case 9: return now.sidesTaken();
            case 10: return now.tasksThatAre(GOING);
            case 11: return now.tasksThatAre(WAITING);
            case 12: return now.program.toldFunctions();
            case 13: return now.program.toldLines();
            case 14: return now.log.total;
            default: return NONE;
        }
    }

    private static boolean isTask(int task) {
        return task >= 0 && task < TASKS;
    }

    private static boolean isFunction(int f) {
        return f >= 0 && f < FUNCTIONS;
    }

    private boolean hasFrame(int task, int i) {
        return isTask(task) && i >= 0 && i < now.tasks[task].frames;
    }

    private void compareResults(Task t, Task endless) {
        if (endless.state == DONE && endless.result != t.result) {
            now.otherResults++;
        }
    }

    /** One PIECE that never has to grow, and a SIDE that is never too small, are an ENDLESS stack. */
    private Task thinkEndless(int f, int a) {
        thought.clear(ENDLESS_WORDS);
        thought.settings[FIRST] = ENDLESS_WORDS;
        thought.settings[MERGE] = 0;
        thought.settings[SIDE] = ENDLESS_SIDE;
        Task t = thought.tasks[0];
        thinker.begin(t, f, a, COPIED);
        for (int i = 0; i < STEPS_IN_THOUGHT && t.on(); i++) {
            thinker.makeStep(t);
        }
        return t;
    }

    /** Answers the most WORDS that the PIECES had; the rest stands in the first TASK of the thought. */
    private int thinkAlone(int f, int a, int mode, int first) {
        thought.clear(MEMORY_WORDS);
        System.arraycopy(now.settings, 0, thought.settings, 0, SETTINGS);
        thought.settings[FIRST] = first;
        Task t = thought.tasks[0];
        thinker.begin(t, f, a, mode);
        int most = thought.pieces.taken;
        for (int i = 0; i < STEPS_IN_THOUGHT && t.on(); i++) {
            thinker.makeStep(t);
            most = Math.max(most, thought.pieces.taken);
        }
        return most;
    }

    /** As long as nothing grows the STEPS are the same by each FIRST, so one run tells of all four. */
    private static int leastFirstFor(int reach) {
        for (int first = LEAST[FIRST]; first <= GREATEST[FIRST]; first *= 2) {
            if (reach <= first) {
                return first;
            }
        }
        return NONE;
    }

    /** The FUNCTIONS and their LINES. */
    private static final class Program {
        final int[] sizes = new int[FUNCTIONS];
        final int[] pointers = new int[FUNCTIONS];
        final int[] lines = new int[FUNCTIONS];
        final int[] code = new int[FUNCTIONS * MOST_LINES * PARTS];
        final int[] deeps = new int[FUNCTIONS];

        boolean told(int f) {
            return sizeOf(f) > 0;
        }

        int sizeOf(int f) {
            return f >= 0 && f < FUNCTIONS ? sizes[f] : 0;
        }

        int linesOf(int f) {
            return isFunction(f) ? lines[f] : 0;
        }

        int deepOf(int f) {
            return isFunction(f) ? deeps[f] : 0;
        }

        int frameWords(int f) {
            return SLOTS + sizeOf(f);
        }

        boolean hasSlot(int f, int s) {
            return s >= 0 && s < sizeOf(f);
        }

        boolean isPointer(int f, int s) {
            return f >= 0 && f < FUNCTIONS && (pointers[f] >> s & 1) == 1;
        }

        boolean hasNumber(int f, int s) {
            return hasSlot(f, s) && !isPointer(f, s);
        }

        boolean hasPointer(int f, int s) {
            return hasSlot(f, s) && isPointer(f, s);
        }

        /** One of a LINE's KIND, A, B, C; NONE, if there is no such LINE. */
        int part(int f, int number, int part) {
            if (f < 0 || f >= FUNCTIONS || number < 0 || number >= lines[f]) {
                return NONE;
            }
            int at = (f * MOST_LINES + number) * PARTS + part;
            return at >= 0 && at < code.length ? code[at] : NONE;
        }

        void tell(int f, int size, int bits) {
            if (!isFunction(f)) {
                return;
            }
            sizes[f] = size;
            pointers[f] = bits;
            lines[f] = 0;
            findDeeps();
        }

        boolean allows(int f, int kind, int a, int b, int c) {
            switch (kind) {
                case SET: return hasNumber(f, a) && b >= -999 && b <= 999;
                case ADD:
                case LESS: return hasNumber(f, a) && hasNumber(f, b) && hasNumber(f, c);
                case POINT: return hasPointer(f, a) && hasNumber(f, b);
                case LOAD: return hasNumber(f, a) && hasPointer(f, b);
                case STORE: return hasPointer(f, a) && hasNumber(f, b);
                case CALL: return isFunction(a) && hasSlot(f, b) && hasNumber(f, c);
                case JUMP: return hasNumber(f, a) && b >= 0 && b < MOST_LINES;
                case RETURN: return hasNumber(f, a);
                case FOREIGN: return a >= 1 && a <= 40 && (b == NONE || isFunction(b)) && hasNumber(f, c);
                default: return kind == QUIET;
            }
        }

        int append(int f, int kind, int a, int b, int c) {
            int number = linesOf(f);
            if (!isFunction(f) || number >= MOST_LINES) {
                return NONE;
            }
            int at = (f * MOST_LINES + number) * PARTS;
            code[at + KIND] = kind;
            code[at + A] = a;
            code[at + B] = b;
            code[at + C] = c;
            lines[f] = number + 1;
            if (kind == CALL || kind == FOREIGN) {
                findDeeps();
            }
            return number;
        }

        /**
         * Each round settles who calls only those that are settled; a way without an end
         * settles nobody on it, and a way with an end has ten FUNCTIONS at most.
         */
        private void findDeeps() {
            for (int f = 0; f < FUNCTIONS; f++) {
                deeps[f] = sizes[f] > 0 ? DEEP_ENDLESS : 0;
            }
            for (int round = 0; round < FUNCTIONS; round++) {
                for (int f = 0; f < FUNCTIONS; f++) {
                    if (deeps[f] == DEEP_ENDLESS) {
                        deeps[f] = deepByLines(f);
                    }
                }
            }
        }

        private int deepByLines(int f) {
            int greatest = 0;
            for (int i = 0; i < linesOf(f); i++) {
                int deep = deepOf(calledBy(f, i));
                if (deep == DEEP_ENDLESS) {
                    return DEEP_ENDLESS;
                }
                greatest = Math.max(greatest, deep);
            }
            return frameWords(f) + greatest;
        }

        /** NONE, if this LINE calls nobody. */
        private int calledBy(int f, int number) {
            int kind = part(f, number, KIND);
            if (kind == CALL) {
                return part(f, number, A);
            }
            return kind == FOREIGN ? part(f, number, B) : NONE;
        }

        int toldFunctions() {
            int n = 0;
            for (int size : sizes) {
                n += size > 0 ? 1 : 0;
            }
            return n;
        }

        int toldLines() {
            int n = 0;
            for (int ofOne : lines) {
                n += ofOne;
            }
            return n;
        }

        void takeOver(Program other) {
            System.arraycopy(other.sizes, 0, sizes, 0, FUNCTIONS);
            System.arraycopy(other.pointers, 0, pointers, 0, FUNCTIONS);
            System.arraycopy(other.lines, 0, lines, 0, FUNCTIONS);
            System.arraycopy(other.code, 0, code, 0, code.length);
            System.arraycopy(other.deeps, 0, deeps, 0, FUNCTIONS);
        }
    }

    /** THE MEMORY: a place that is none has the WORD NONE, and what comes there is lost. */
    private static final class Memory {
        final int[] words;

        Memory(int size) {
            words = new int[Math.max(size, 0)];
        }

        int word(int at) {
            return at >= 0 && at < words.length ? words[at] : NONE;
        }

        void put(int at, int word) {
            if (at >= 0 && at < words.length) {
                words[at] = word;
            }
        }

        void bring(int from, int to, int number) {
            int last = words.length - number;
            if (number > 0 && from >= 0 && from <= last && to >= 0 && to <= last) {
                System.arraycopy(words, from, words, to, number);
            }
        }

        /** As many as both have: an ENDLESS stack has more of them. */
        void takeOver(Memory other) {
            System.arraycopy(other.words, 0, words, 0, Math.min(words.length, other.words.length));
        }
    }

    /**
     * The PIECES that are taken, each by an id that stays as it is moved (NONE: no PIECE).
     * The ids stand in order by places; behind them stand those that are free.
     */
    private static final class Pieces {
        final int[] place = new int[MOST_PIECES];
        final int[] words = new int[MOST_PIECES];
        final int[] used = new int[MOST_PIECES];
        /** The PIECE of the same STACK before this one; NONE of the first one. */
        final int[] below = new int[MOST_PIECES];
        final int[] owner = new int[MOST_PIECES];
        final int[] order = new int[MOST_PIECES];
        /** By how much the WORDS of a PIECE are about to be moved. */
        final int[] shift = new int[MOST_PIECES];
        int number;
        int taken;
        int limit;

        void clear(int newLimit) {
            for (int i = 0; i < MOST_PIECES; i++) {
                order[i] = i;
            }
            number = 0;
            taken = 0;
            limit = newLimit;
        }

        int placeOf(int id) {
            return id >= 0 && id < MOST_PIECES ? place[id] : NONE;
        }

        int wordsOf(int id) {
            return id >= 0 && id < MOST_PIECES ? words[id] : 0;
        }

        int usedOf(int id) {
            return id >= 0 && id < MOST_PIECES ? used[id] : 0;
        }

        int belowOf(int id) {
            return id >= 0 && id < MOST_PIECES ? below[id] : NONE;
        }

        int ownerOf(int id) {
            return id >= 0 && id < MOST_PIECES ? owner[id] : NONE;
        }

        int shiftOf(int id) {
            return id >= 0 && id < MOST_PIECES ? shift[id] : 0;
        }

        /** The place behind its last WORD. */
        int endOf(int id) {
            return id >= 0 && id < MOST_PIECES ? place[id] + words[id] : 0;
        }

        /** The place behind its last FRAME. */
        int topOf(int id) {
            return id >= 0 && id < MOST_PIECES ? place[id] + used[id] : 0;
        }

        void use(int id, int more) {
            if (id >= 0 && id < MOST_PIECES) {
                used[id] += more;
            }
        }

        void putOver(int id, int under) {
            if (id >= 0 && id < MOST_PIECES) {
                below[id] = under;
            }
        }

        void aimAt(int id, int newPlace) {
            if (id >= 0 && id < MOST_PIECES) {
                shift[id] = newPlace - place[id];
            }
        }

        /** It lies now where it was aimed at; whether that is elsewhere. */
        boolean settle(int id) {
            if (id < 0 || id >= MOST_PIECES || shift[id] == 0) {
                return false;
            }
            place[id] += shift[id];
            return true;
        }

        /** The one that stands so in order. */
        int idAt(int rank) {
            return rank >= 0 && rank < number && rank < MOST_PIECES ? order[rank] : NONE;
        }

        int gapFrom(int rank) {
            return endOf(idAt(rank - 1));
        }

        int gapTo(int rank) {
            return rank < number ? placeOf(idAt(rank)) : limit;
        }

        int take(int wanted, int task, int under) {
            for (int i = 0; i <= number; i++) {
                int from = gapFrom(i);
                if (gapTo(i) - from >= wanted) {
                    int id = insert(i);
                    if (id >= 0 && id < MOST_PIECES) {
                        place[id] = from;
                        words[id] = wanted;
                        used[id] = 0;
                        below[id] = under;
                        owner[id] = task;
                        taken += wanted;
                    }
                    return id;
                }
            }
            return NONE;
        }

        private int insert(int rank) {
            if (rank < 0 || rank > number || number >= MOST_PIECES) {
                return NONE;
            }
            int id = order[number];
            System.arraycopy(order, rank, order, rank + 1, number - rank);
            order[rank] = id;
            number++;
            return id;
        }

        void giveBack(int id) {
            int rank = rankOf(placeOf(id));
            if (id == NONE || rank < 0 || rank >= number || idAt(rank) != id) {
                return;
            }
            number--;
            System.arraycopy(order, rank + 1, order, rank, number - rank);
            order[number] = id;
            taken -= wordsOf(id);
        }

        /** Which in order the PIECE is that begins at a place, or the last one before it. */
        private int rankOf(int at) {
            int low = 0;
            int high = number - 1;
            for (int i = 0; i < MOST_PIECES && low < high && high < MOST_PIECES; i++) {
                int middle = (low + high + 1) / 2;
                int id = order[middle];
                if (id >= 0 && id < MOST_PIECES && place[id] <= at) {
                    low = middle;
                } else {
                    high = middle - 1;
                }
            }
            return low;
        }

        int holding(int at) {
            return idAt(rankOf(at));
        }

        int turned(int at) {
            return at == NONE ? NONE : at + shiftOf(idAt(rankOf(at)));
        }

        /** How many PIECES of its STACK lie before this one. */
        int indexOf(int id) {
            int n = 0;
            for (int p = belowOf(id); p != NONE && n < MOST_PIECES; p = belowOf(p)) {
                n++;
            }
            return n;
        }

        int gaps() {
            int n = 0;
            for (int i = 0; i <= number; i++) {
                n += gapTo(i) > gapFrom(i) ? 1 : 0;
            }
            return n;
        }

        int gapFact(int wanted, int what) {
            int n = 0;
            for (int i = 0; i <= number; i++) {
                int from = gapFrom(i);
                int size = gapTo(i) - from;
                if (size > 0) {
                    if (n == wanted) {
                        return what == 0 ? from : size;
                    }
                    n++;
                }
            }
            return NONE;
        }

        int greatestGap() {
            int greatest = 0;
            for (int i = 0; i <= number; i++) {
                greatest = Math.max(greatest, gapTo(i) - gapFrom(i));
            }
            return greatest;
        }

        void takeOver(Pieces other) {
            System.arraycopy(other.place, 0, place, 0, MOST_PIECES);
            System.arraycopy(other.words, 0, words, 0, MOST_PIECES);
            System.arraycopy(other.used, 0, used, 0, MOST_PIECES);
            System.arraycopy(other.below, 0, below, 0, MOST_PIECES);
            System.arraycopy(other.owner, 0, owner, 0, MOST_PIECES);
            System.arraycopy(other.order, 0, order, 0, MOST_PIECES);
            number = other.number;
            taken = other.taken;
            limit = other.limit;
        }
    }

    /** A TASK; its last FRAME's FUNCTION and next LINE stand here, those of the others in BACKs. */
    private static final class Task {
        final int number;
        int state;
        int mode;
        int result;
        int frames;
        int used;
        int most;
        int side;
        int sideUsed;
        int function;
        int line;
        int place;
        int last;
        int spare;
        /** The most WORDS that one PIECE alone would have had to have for a call that was CHECKED. */
        int reach;
        int startFunction;
        int startNumber;
        final int[] sums = new int[SUMS];

        Task(int number) {
            this.number = number;
        }

        boolean on() {
            return state == GOING || state == WAITING;
        }

        void clear() {
            state = ABSENT;
            mode = COPIED;
            result = 0;
            most = 0;
            reach = 0;
            startFunction = NONE;
            startNumber = 0;
            Arrays.fill(sums, 0);
            dropStack();
        }

        void dropStack() {
            frames = 0;
            used = 0;
            side = NONE;
            sideUsed = 0;
            function = NONE;
            line = NONE;
            place = NONE;
            last = NONE;
            spare = NONE;
        }

        void takeOver(Task other) {
            state = other.state;
            mode = other.mode;
            result = other.result;
            frames = other.frames;
            used = other.used;
            most = other.most;
            side = other.side;
            sideUsed = other.sideUsed;
            function = other.function;
            line = other.line;
            place = other.place;
            last = other.last;
            spare = other.spare;
            reach = other.reach;
            startFunction = other.startFunction;
            startNumber = other.startNumber;
            System.arraycopy(other.sums, 0, sums, 0, SUMS);
        }
    }

    /** THE LOG: the latest lines, in a ring. */
    private static final class Log {
        final int[] facts = new int[LOG_LINES * 4];
        int total;

        void write(int what, int task, int place, int words) {
            int at = total % LOG_LINES * 4;
            if (at >= 0 && at + 3 < facts.length) {
                facts[at] = what;
                facts[at + 1] = task;
                facts[at + 2] = place;
                facts[at + 3] = words;
                total++;
            }
        }

        int read(int i, int what) {
            if (i < 0 || i >= total || i >= LOG_LINES || what < 0 || what > 3) {
                return NONE;
            }
            return facts[(total - 1 - i) % LOG_LINES * 4 + what];
        }

        void takeOver(Log other) {
            System.arraycopy(other.facts, 0, facts, 0, facts.length);
            total = other.total;
        }
    }

    /** A way over the FRAMES of a TASK from the last one on: just a BACK tells who called. */
    private static final class Walk {
        final Memory memory;
        int place;
        int function;
        int line;

        Walk(Memory memory) {
            this.memory = memory;
        }

        void toLast(Task t) {
            place = t.place;
            function = t.function;
            line = t.line;
        }

        /** Behind the first FRAME the place is NONE: nobody may go on from there. */
        void toCaller() {
            int back = memory.word(place + BACK);
            place = memory.word(place);
            function = (back & WAY_BITS) >> 5;
            line = back & LINE_BITS;
        }

        void toFrame(Task t, int i) {
            toLast(t);
            for (int at = t.frames - 1; at > i; at--) {
                toCaller();
            }
        }

        /** Goes to the FRAME that has this place: its number, or NONE. */
        int toPlace(Task t, int word, Program program) {
            toLast(t);
            for (int i = t.frames - 1; i >= 0; i--) {
                if (word >= place && word < place + program.frameWords(function)) {
                    return i;
                }
                if (i > 0) {
                    toCaller();
                }
            }
            return NONE;
        }
    }

    /** All that is and was told: what an image keeps, and what can be thought with. */
    private static final class World {
        final Program program;
        final int[] settings = new int[SETTINGS];
        final Memory memory;
        final Pieces pieces = new Pieces();
        final Task[] tasks = new Task[TASKS];
        final Log log = new Log();
        final int[] sums = new int[SUMS];
        final Walk walk;
        int otherResults;

        World(int words, Program program) {
            this.program = program;
            memory = new Memory(words);
            walk = new Walk(memory);
            for (int i = 0; i < TASKS; i++) {
                tasks[i] = new Task(i);
            }
            clear(MEMORY_WORDS);
        }

        /** As a new object is, but for the program; WORDS are set as a FRAME comes, so none are cleared. */
        void clear(int limit) {
            System.arraycopy(AT_FIRST, 0, settings, 0, SETTINGS);
            pieces.clear(limit);
            for (Task t : tasks) {
                t.clear();
            }
            log.total = 0;
            Arrays.fill(sums, 0);
            otherResults = 0;
        }

        /** All but the program. */
        void takeOver(World other) {
            System.arraycopy(other.settings, 0, settings, 0, SETTINGS);
            memory.takeOver(other.memory);
            pieces.takeOver(other.pieces);
            for (int i = 0; i < TASKS; i++) {
                tasks[i].takeOver(other.tasks[i]);
            }
            log.takeOver(other.log);
            System.arraycopy(other.sums, 0, sums, 0, SUMS);
            otherResults = other.otherResults;
        }

        void add(Task t, int what, int n) {
            if (what >= 0 && what < SUMS) {
                t.sums[what] += n;
                sums[what] += n;
            }
        }

        void writeLog(int what, int piece) {
            log.write(what, pieces.ownerOf(piece), pieces.placeOf(piece), pieces.wordsOf(piece));
        }

        boolean busy() {
            return tasksThatAre(GOING) + tasksThatAre(WAITING) > 0;
        }

        int tasksThatAre(int state) {
            int n = 0;
            for (Task t : tasks) {
                n += t.state == state ? 1 : 0;
            }
            return n;
        }

        int sidesTaken() {
            int n = 0;
            for (Task t : tasks) {
                n += t.side != NONE ? 1 : 0;
            }
            return n;
        }

        int freeSide() {
            for (int side = 0; side < settings[SIDES]; side++) {
                boolean free = true;
                for (Task t : tasks) {
                    free = free && t.side != side;
                }
                if (free) {
                    return side;
                }
            }
            return NONE;
        }

        boolean covers(int f) {
            int deep = program.deepOf(f);
            return settings[MERGE] == 1 && deep != DEEP_ENDLESS && deep <= settings[RED];
        }

        int needOf(int f) {
            return covers(f) ? program.deepOf(f) : program.frameWords(f);
        }

        boolean lastCovered(Task t) {
            return t.frames > 0 && (memory.word(t.place + BACK) & COVERED) != 0;
        }

        int piecesOf(Task t) {
            if (t.last == NONE) {
                return 0;
            }
            return pieces.indexOf(t.last) + (t.spare == NONE ? 1 : 2);
        }

        int wordsOf(Task t) {
            int n = pieces.wordsOf(t.spare);
            int p = t.last;
            for (int i = 0; i < MOST_PIECES && p != NONE; i++) {
                n += pieces.wordsOf(p);
                p = pieces.belowOf(p);
            }
            return n;
        }

        /** The id of the i-th PIECE of a TASK, the SPARE behind all; NONE, if there is none such. */
        int pieceOf(Task t, int i) {
            if (t.last == NONE) {
                return NONE;
            }
            int lastIndex = pieces.indexOf(t.last);
            if (i > lastIndex) {
                return i == lastIndex + 1 ? t.spare : NONE;
            }
            int id = t.last;
            for (int at = lastIndex; at > i; at--) {
                id = pieces.belowOf(id);
            }
            return id;
        }

        /** This is not told in THE LOG. */
        void releasePieces(Task t) {
            int p = t.last;
            for (int i = 0; i < MOST_PIECES && p != NONE; i++) {
                pieces.giveBack(p);
                p = pieces.belowOf(p);
            }
            pieces.giveBack(t.spare);
            t.spare = NONE;
        }
    }

    /** Moves FRAMES and PIECES about, and turns the WORDS that are places. */
    private static final class Mover {
        final World world;
        final Pieces pieces;
        final Memory memory;

        Mover(World world) {
            this.world = world;
            pieces = world.pieces;
            memory = world.memory;
        }

        /** COPIED: the whole STACK comes into another PIECE; nothing, if there is no gap for it. */
        boolean moveInto(Task t, int words, int logged) {
            int old = t.last;
            int id = pieces.take(words, t.number, NONE);
            if (id == NONE) {
                return false;
            }
            pieces.aimAt(old, pieces.placeOf(id));
            turnPlaces(t);
            bringOver(old);
            pieces.use(id, t.used);
            pieces.giveBack(old);
            t.last = id;
            world.add(t, SUM_CAME_OVER, t.used);
            world.add(t, logged == LOG_GREATER ? SUM_GREATER : SUM_SMALLER, 1);
            world.writeLog(logged, id);
            return true;
        }

        /** LINKED: another PIECE is the last one; false, if there is no gap for it. */
        boolean linkPiece(Task t, int need) {
            int id = t.spare;
            if (id != NONE && pieces.wordsOf(id) >= need) {
                t.spare = NONE;
                pieces.putOver(id, t.last);
                t.last = id;
                world.add(t, SUM_AGAIN, 1);
                world.writeLog(LOG_AGAIN, id);
                return true;
            }
            dropSpare(t);
            id = pieces.take(Math.max(world.settings[FIRST], need), t.number, t.last);
            if (id == NONE) {
                return false;
            }
            t.last = id;
            world.add(t, SUM_SPLITS, 1);
            world.writeLog(LOG_SPLIT, id);
            return true;
        }

        /** LINKED: the last PIECE has no FRAME any more. */
        void leavePiece(Task t) {
            int id = t.last;
            t.last = pieces.belowOf(id);
            if (world.settings[HOT] == 1) {
                dropSpare(t);
                t.spare = id;
                world.writeLog(LOG_SPARE, id);
            } else {
                world.writeLog(LOG_GIVEN_BACK, id);
                pieces.giveBack(id);
            }
        }

        private boolean dropSpare(Task t) {
            int id = t.spare;
            if (id == NONE) {
                return false;
            }
            t.spare = NONE;
            world.writeLog(LOG_GIVEN_BACK, id);
            pieces.giveBack(id);
            return true;
        }

        /** Calls that are COVERED are not CHECKED again: the room for them has to stay. */
        private int keptWords(Task t) {
            return t.used + (world.lastCovered(t) ? world.settings[RED] : 0);
        }

        /** QUIET. */
        boolean makeSmaller(Task t) {
            if (t.mode == LINKED) {
                return dropSpare(t);
            }
            int words = pieces.wordsOf(t.last);
            if (4 * keptWords(t) > words || words / 2 < world.settings[FIRST]) {
                return false;
            }
            return moveInto(t, words / 2, LOG_SMALLER);
        }

        /** JOINED. */
        boolean joinPieces(Task t) {
            int id = pieces.take(doubled(world.settings[FIRST], keptWords(t)), t.number, NONE);
            if (id == NONE) {
                return false;
            }
            int end = pieces.placeOf(id) + t.used;
            int p = t.last;
            for (int i = 0; i < MOST_PIECES && p != NONE; i++) {
                end -= pieces.usedOf(p);
                pieces.aimAt(p, end);
                p = pieces.belowOf(p);
            }
            turnPlaces(t);
            p = t.last;
            for (int i = 0; i < MOST_PIECES && p != NONE; i++) {
                bringOver(p);
                p = pieces.belowOf(p);
            }
            world.releasePieces(t);
            pieces.use(id, t.used);
            t.last = id;
            t.mode = COPIED;
            world.add(t, SUM_CAME_OVER, t.used);
            world.writeLog(LOG_JOINED, id);
            return true;
        }

        /** COMPACT: how many PIECES lie elsewhere by it. */
        int gather() {
            int end = 0;
            for (int i = 0; i < pieces.number; i++) {
                int id = pieces.idAt(i);
                pieces.aimAt(id, end);
                end += pieces.wordsOf(id);
            }
            // All places are turned while the PIECES still lie where the places say.
            for (Task t : world.tasks) {
                turnPlaces(t);
            }
            int moved = 0;
            for (int i = 0; i < pieces.number; i++) {
                int id = pieces.idAt(i);
                bringOver(id);
                if (pieces.settle(id)) {
                    world.writeLog(LOG_ELSEWHERE, id);
                    moved++;
                }
            }
            return moved;
        }

        private void bringOver(int id) {
            int from = pieces.placeOf(id);
            memory.bring(from, from + pieces.shiftOf(id), pieces.usedOf(id));
        }

        /** Each BASE and each POINTER by as much as the PIECE is moved in which it ends. */
        private void turnPlaces(Task t) {
            Program program = world.program;
            Walk walk = world.walk;
            walk.toLast(t);
            for (int left = t.frames; left > 0; left--) {
                int at = walk.place;
                int f = walk.function;
                walk.toCaller();
                int size = program.sizeOf(f);
                memory.put(at, pieces.turned(memory.word(at)));
                for (int s = 0; s < size; s++) {
                    if (program.isPointer(f, s)) {
                        int slot = at + SLOTS + s;
                        memory.put(slot, pieces.turned(memory.word(slot)));
                    }
                }
            }
            t.place = pieces.turned(t.place);
        }

        static int doubled(int words, int enough) {
            int n = words;
            for (int i = 0; i < MOST_DOUBLINGS && n < enough; i++) {
                n *= 2;
            }
            return n;
        }
    }

    /** Makes the STEPS of TASKS. */
    private static final class Machine {
        final World world;
        final Mover mover;
        final Program program;
        final Pieces pieces;
        final Memory memory;

        Machine(World world) {
            this.world = world;
            mover = new Mover(world);
            program = world.program;
            pieces = world.pieces;
            memory = world.memory;
        }

        /** False, if there is no gap of FIRST WORDS; a TASK whose first call finds no room has begun, and is OUT. */
        boolean begin(Task t, int f, int a, int mode) {
            int id = pieces.take(world.settings[FIRST], t.number, NONE);
            if (id == NONE) {
                return false;
            }
            t.clear();
            t.state = GOING;
            t.mode = mode;
            t.startFunction = f;
            t.startNumber = a;
            t.last = id;
            int covered = roomFor(t, f);
            if (covered != NONE) {
                pushFrame(t, f, covered);
                if (!program.isPointer(f, 0)) {
                    memory.put(t.place + SLOTS, a);
                }
            }
            return true;
        }

        void makeStep(Task t) {
            world.add(t, SUM_STEPS, 1);
            int f = t.function;
            int number = t.line;
            int kind = program.part(f, number, KIND);
            int called = NONE;
            t.line = number + 1;
            switch (kind) {
                case NONE:
                    leaveFrame(t, 0);
                    break;
                case CALL:
                    called = callFunction(t, number);
                    break;
                case RETURN:
                    leaveFrame(t, memory.word(t.place + SLOTS + program.part(f, number, A)));
                    break;
                case FOREIGN:
                    called = callForeign(t, number);
                    break;
                case QUIET:
                    mover.makeSmaller(t);
                    break;
                default:
                    reckon(t, kind, number);
                    break;
            }
            int covered = called == NONE ? NONE : roomFor(t, called);
            if (covered != NONE) {
                enter(t, called, covered);
            }
            if (t.state == WAITING) {
                world.add(t, SUM_WAITED, 1);
            }
        }

        /** The LINES that neither call nor RETURN. */
        private void reckon(Task t, int kind, int number) {
            int a = program.part(t.function, number, A);
            int b = program.part(t.function, number, B);
            int c = program.part(t.function, number, C);
            int slots = t.place + SLOTS;
            switch (kind) {
                case SET:
                    memory.put(slots + a, b);
                    break;
                case ADD:
                    memory.put(slots + a, memory.word(slots + b) + memory.word(slots + c));
                    break;
                case LESS:
                    memory.put(slots + a, memory.word(slots + b) < memory.word(slots + c) ? 1 : 0);
                    break;
                case POINT:
                    memory.put(slots + a, slots + b);
                    break;
                case LOAD:
                    int from = memory.word(slots + b);
                    memory.put(slots + a, from == NONE ? 0 : memory.word(from));
                    break;
                case STORE:
                    // NOWHERE is no place: what comes there is lost.
                    memory.put(memory.word(slots + a), memory.word(slots + b));
                    break;
                case JUMP:
                    if (memory.word(slots + a) > 0) {
                        t.line = b;
                    }
                    break;
                default:
                    break;
            }
        }

        /** Answers the FUNCTION that now needs a FRAME, or NONE: one that is not told RETURNS 0 without any. */
        private int callFunction(Task t, int number) {
            int f = program.part(t.function, number, A);
            if (program.told(f)) {
                return f;
            }
            memory.put(t.place + SLOTS + program.part(t.function, number, C), 0);
            return NONE;
        }

        /** Answers the FUNCTION that is called back, or NONE. */
        private int callForeign(Task t, int number) {
            if (t.side == NONE) {
                t.side = world.freeSide();
            }
            if (t.side == NONE) {
                t.state = WAITING;
                t.line = number;
                return NONE;
            }
            t.state = GOING;
            int words = program.part(t.function, number, A);
            if (t.sideUsed + words > world.settings[SIDE]) {
                end(t, OUT);
                return NONE;
            }
            t.sideUsed += words;
            int f = program.part(t.function, number, B);
            if (program.told(f)) {
                return f;
            }
            int slot = t.place + SLOTS + program.part(t.function, number, C);
            memory.put(slot, 3 * memory.word(slot) + 1);
            endForeign(t, words);
            return NONE;
        }

        private void endForeign(Task t, int words) {
            t.sideUsed -= words;
            if (t.sideUsed == 0) {
                t.side = NONE;
            }
            world.add(t, SUM_FOREIGN, 1);
        }

        /** Makes room for a call: answers COVERED or 0, for its FRAME; NONE, if the TASK is OUT. */
        private int roomFor(Task t, int f) {
            if (world.lastCovered(t)) {
                world.add(t, SUM_COVERED, 1);
                return COVERED;
            }
            int need = world.needOf(f);
            world.add(t, SUM_CHECKED, 1);
            t.reach = Math.max(t.reach, t.used + need);
            int words = pieces.wordsOf(t.last);
            if (words - pieces.usedOf(t.last) < need) {
                boolean grown = t.mode == LINKED ? mover.linkPiece(t, need)
                        : mover.moveInto(t, Mover.doubled(2 * words, t.used + need), LOG_GREATER);
                if (!grown) {
                    end(t, OUT);
                    return NONE;
                }
            }
            return world.covers(f) ? COVERED : 0;
        }

        /** The SLOT that is handed over is read behind roomFor(), which may have turned it. */
        private void enter(Task t, int f, int covered) {
            int caller = t.function;
            boolean foreign = program.part(caller, t.line - 1, KIND) == FOREIGN;
            int slot = program.part(caller, t.line - 1, foreign ? C : B);
            int word = memory.word(t.place + SLOTS + slot);
            pushFrame(t, f, 32 * caller + t.line + covered + (foreign ? CALLED_BACK : 0));
            if (program.isPointer(caller, slot) == program.isPointer(f, 0)) {
                memory.put(t.place + SLOTS, word);
            }
        }

        private void pushFrame(Task t, int f, int back) {
            int at = pieces.topOf(t.last);
            memory.put(at, t.place);
            memory.put(at + BACK, back);
            int size = program.sizeOf(f);
            for (int s = 0; s < size; s++) {
                memory.put(at + SLOTS + s, program.isPointer(f, s) ? NONE : 0);
            }
            int words = SLOTS + size;
            pieces.use(t.last, words);
            t.used += words;
            t.most = Math.max(t.most, t.used);
            t.frames++;
            t.place = at;
            t.function = f;
            t.line = 0;
        }

        private void leaveFrame(Task t, int value) {
            int base = memory.word(t.place);
            int back = memory.word(t.place + BACK);
            int words = program.frameWords(t.function);
            pieces.use(t.last, -words);
            t.used -= words;
            t.frames--;
            if (pieces.usedOf(t.last) == 0 && pieces.belowOf(t.last) != NONE) {
                mover.leavePiece(t);
            }
            if (base == NONE) {
                t.result = value;
                end(t, DONE);
                return;
            }
            t.place = base;
            t.function = (back & WAY_BITS) >> 5;
            t.line = back & LINE_BITS;
            memory.put(base + SLOTS + program.part(t.function, t.line - 1, C), value);
            if ((back & CALLED_BACK) != 0) {
                endForeign(t, program.part(t.function, t.line - 1, A));
            }
        }

        private void end(Task t, int state) {
            world.releasePieces(t);
            t.dropStack();
            t.state = state;
            world.add(t, state == DONE ? SUM_DONE : SUM_OUT, 1);
            world.log.write(state == DONE ? LOG_DONE : LOG_OUT, t.number, NONE, NONE);
        }
    }

    /** Looks for what never is; it goes by how the FRAMES lie, not by the BASES that it looks at. */
    private static final class Guard {
        final World world;
        final int[] marks = new int[MEMORY_WORDS];
        int piece;
        int place;
        int function;

        Guard(World world) {
            this.world = world;
        }

        private void mark(int at) {
            if (at >= 0 && at < MEMORY_WORDS) {
                marks[at]++;
            }
        }

        private int marksAt(int at) {
            return at >= 0 && at < MEMORY_WORDS ? marks[at] : 0;
        }

        private void goToLast(Task t) {
            piece = t.last;
            place = t.place;
            function = t.function;
        }

        /** The caller ends where this FRAME begins, or where the PIECE below has its last FRAME. */
        private void goToCaller() {
            Pieces pieces = world.pieces;
            int end = place;
            if (place == pieces.placeOf(piece) && pieces.belowOf(piece) != NONE) {
                piece = pieces.belowOf(piece);
                end = pieces.topOf(piece);
            }
            function = (world.memory.word(place + BACK) & WAY_BITS) >> 5;
            place = end - world.program.frameWords(function);
        }

        int wrongPlaces() {
            int wrong = 0;
            for (Task t : world.tasks) {
                Arrays.fill(marks, 0);
                markNumbers(t);
                goToLast(t);
                for (int left = t.frames; left > 0; left--) {
                    wrong += wrongPointers();
                    int base = world.memory.word(place);
                    if (left > 1) {
                        goToCaller();
                    }
                    wrong += base == (left > 1 ? place : NONE) ? 0 : 1;
                }
            }
            return wrong;
        }

        private void markNumbers(Task t) {
            goToLast(t);
            for (int left = t.frames; left > 0; left--) {
                for (int s = 0; s < world.program.sizeOf(function); s++) {
                    if (!world.program.isPointer(function, s)) {
                        mark(place + SLOTS + s);
                    }
                }
                if (left > 1) {
                    goToCaller();
                }
            }
        }

        private int wrongPointers() {
            int wrong = 0;
            for (int s = 0; s < world.program.sizeOf(function); s++) {
                int word = world.memory.word(place + SLOTS + s);
                if (world.program.isPointer(function, s) && word != NONE) {
                    wrong += marksAt(word) == 1 ? 0 : 1;
                }
            }
            return wrong;
        }

        int wrongFrames() {
            Arrays.fill(marks, 0);
            for (Task t : world.tasks) {
                markWords(t);
            }
            int wrong = 0;
            for (Task t : world.tasks) {
                world.walk.toLast(t);
                for (int left = t.frames; left > 0; left--) {
                    wrong += liesWell(t) ? 0 : 1;
                    if (left > 1) {
                        world.walk.toCaller();
                    }
                }
            }
            return wrong;
        }

        private void markWords(Task t) {
            Walk walk = world.walk;
            walk.toLast(t);
            for (int left = t.frames; left > 0; left--) {
                int words = world.program.frameWords(walk.function);
                for (int i = 0; i < words; i++) {
                    mark(walk.place + i);
                }
                if (left > 1) {
                    walk.toCaller();
                }
            }
        }

        private boolean liesWell(Task t) {
            Pieces pieces = world.pieces;
            int from = world.walk.place;
            int words = world.program.frameWords(world.walk.function);
            int id = pieces.holding(from);
            boolean well = pieces.ownerOf(id) == t.number && from >= pieces.placeOf(id)
                    && from + words <= pieces.endOf(id);
            for (int i = 0; i < words; i++) {
                well = well && marksAt(from + i) == 1;
            }
            return well;
        }
    }
}
