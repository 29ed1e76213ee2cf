import java.util.ArrayList;
import java.util.List;
import java.util.Random;

/** Runs of calls by chance (the same ones each time), on the class and on the model: all answers must be the same. */
public final class ModelTest {
    private static final int RUNS = 500;
    private static final int CALLS = 60;

    private final Random random;
    private final GrowingStacks real = new GrowingStacks();
    private final Model model = new Model();
    private final List<String> history = new ArrayList<>();
    private int wrong = 0;
    /** Whether FUNCTIONS call only those behind them, so that none is ENDLESS and many are COVERED. */
    private final boolean upward;

    private ModelTest(long seed) {
        random = new Random(seed);
        upward = seed % 3 == 0;
    }

    private int called(int f, int functions) {
        return upward ? Math.min(9, f + from(1, 3)) : below(functions);
    }

    private int below(int n) {
        return random.nextInt(n);
    }

    private int from(int low, int high) {
        return low + random.nextInt(high - low + 1);
    }

    private void same(String call, long got, long want) {
        if (got != want) {
            wrong++;
            if (wrong <= 5) {
                System.out.println(call + " answered " + got + ", due is " + want);
            }
        }
    }

    private void same(String call, boolean got, boolean want) {
        same(call, got ? 1 : 0, want ? 1 : 0);
    }

    private String call(String name, Object... args) {
        StringBuilder b = new StringBuilder(name).append('(');
        for (int i = 0; i < args.length; i++) {
            b.append(i == 0 ? "" : ", ").append(args[i]);
        }
        return b.append(')').toString();
    }

    // ---- telling

    private void tellSetting() {
        int what = below(20) == 0 ? from(-1, 7) : below(6);
        int[] low = {8, 0, 0, 10, 1, 10};
        int[] high = {64, 1, 1, 80, 3, 90};
        int v = what < 0 || what > 5 ? 1 : from(low[what], high[what]);
        if (below(10) == 0) {
            v = from(-2, 95);
        } else if (what == 0 && below(2) == 0) {
            v = from(8, 14);
        }
        String c = call("set", what, v);
        history.add(c);
        same(c, real.set(what, v), model.set(what, v));
    }

    private void tellFunction(int f, int size, int pointers) {
        String c = call("function", f, size, pointers);
        history.add(c);
        same(c, real.function(f, size, pointers), model.function(f, size, pointers));
    }

    private void tellLine(int f, int kind, int a, int b, int c) {
        String call = call("line", f, kind, a, b, c);
        history.add(call);
        same(call, real.line(f, kind, a, b, c), model.line(f, kind, a, b, c));
    }

    private void tellLineByChance(int f, int size, int functions) {
        int[] kinds = {0, 0, 1, 1, 2, 3, 3, 4, 5, 6, 6, 6, 7, 7, 8, 9, 10};
        int kind = below(40) == 0 ? from(-1, 12) : kinds[below(kinds.length)];
        int a = below(size);
        int b = below(size);
        int c = below(size);
        if (kind == 0) {
            b = below(20) == 0 ? from(-1003, 1003) : from(-3, 6);
        } else if (kind == 6) {
            a = below(30) == 0 ? from(-1, 10) : called(f, functions);
        } else if (kind == 7) {
            b = below(20) == 0 ? from(-1, 17) : below(8);
        } else if (kind == 9) {
            a = below(20) == 0 ? from(-1, 42) : from(1, 20);
            b = below(2) == 0 ? -1 : called(f, functions);
        }
        tellLine(f, kind, a, b, c);
    }

    /** Calls itself until its number has come down to 0; called stands for what is called on the way. */
    private void tellRecursion(int f, int size, int called) {
        tellFunction(f, size, 0);
        tellLine(f, 0, 1, -1, 0);
        tellLine(f, 7, 0, 3, 0);
        tellLine(f, 8, 0, 0, 0);
        tellLine(f, 1, 1, 0, 1);
        tellLine(f, 6, f, 1, 2);
        if (called >= 0) {
            tellLine(f, 6, called, 0, 1);
        }
        if (below(3) == 0) {
            tellLine(f, 10, 0, 0, 0);
        }
        if (below(4) == 0) {
            tellLine(f, 9, from(1, 30), below(2) == 0 ? -1 : called, 1);
        }
        tellLine(f, 1, 2, 2, 0);
        tellLine(f, 8, 2, 0, 0);
    }

    /** Calls itself with a POINTER to a NUMBER of its own, and counts up what it was given. */
    private void tellPointing(int f, int size) {
        tellFunction(f, size, 3);
        tellLine(f, 4, 2, 0, 0);
        tellLine(f, 0, 3, -1, 0);
        tellLine(f, 1, 3, 2, 3);
        tellLine(f, 7, 3, 6, 0);
        tellLine(f, 5, 0, 3, 0);
        tellLine(f, 8, 3, 0, 0);
        tellLine(f, 3, 1, 3, 0);
        tellLine(f, 6, f, 1, 2);
        tellLine(f, 1, 2, 2, 3);
        tellLine(f, 5, 0, 2, 0);
        tellLine(f, 8, 2, 0, 0);
    }

    /** Calls called with a POINTER to its own number. */
    private void tellPointingFirst(int f, int called) {
        tellFunction(f, 3, 2);
        tellLine(f, 3, 1, 0, 0);
        tellLine(f, 6, called, 1, 2);
        tellLine(f, 1, 0, 0, 2);
        tellLine(f, 8, 0, 0, 0);
    }

    /** Calls called as often as its number says, the hot loop for which a SPARE is kept. */
    private void tellLoop(int f, int size, int called) {
        tellFunction(f, size, 0);
        tellLine(f, 0, 1, -1, 0);
        tellLine(f, 6, called, 0, 2);
        if (below(3) == 0) {
            tellLine(f, 9, from(1, 25), below(2) == 0 ? -1 : called, 2);
        }
        tellLine(f, 1, 0, 0, 1);
        tellLine(f, 7, 0, 1, 0);
        tellLine(f, 8, 2, 0, 0);
    }

    private void tellProgram() {
        int functions = from(1, 10);
        for (int f = 0; f < functions; f++) {
            int way = upward ? from(4, 9) : below(10);
            int size = from(3, 8);
            if (way < 3) {
                tellRecursion(f, size, below(2) == 0 ? -1 : called(f, functions));
            } else if (way == 3) {
                tellPointing(f, from(4, 8));
            } else if (way == 4) {
                tellPointingFirst(f, called(f, functions));
            } else if (way == 5) {
                tellLoop(f, size, called(f, functions));
            } else if (way < 9) {
                size = from(1, 8);
                tellFunction(f, size, random.nextInt(1 << size) & random.nextInt(1 << size));
                for (int lines = below(18); lines > 0; lines--) {
                    tellLineByChance(f, size, functions);
                }
            } else {
                tellFunction(from(-1, 10), from(-1, 9), from(-1, 40));
            }
        }
    }

    // ---- going

    private void act() {
        int task = below(40) == 0 ? from(-1, 7) : below(6);
        String c;
        switch (below(16)) {
            case 0: case 1: case 2: case 3: {
                int f = below(40) == 0 ? from(-1, 10) : below(10);
                int a = from(-1, 45);
                int mode = below(40) == 0 ? from(-1, 2) : below(2);
                c = call("start", task, f, a, mode);
                history.add(c);
                same(c, real.start(task, f, a, mode), model.start(task, f, a, mode));
                break;
            }
            case 4: case 5: case 6: {
                int n = below(40) == 0 ? from(-1, 202) : below(2) == 0 ? from(1, 30) : from(1, 200);
                c = call("step", task, n);
                history.add(c);
                same(c, real.step(task, n), model.step(task, n));
                break;
            }
            case 7: case 8: case 9: {
                int n = below(40) == 0 ? from(-1, 102) : from(1, 40);
                c = call("round", n);
                history.add(c);
                same(c, real.round(n), model.round(n));
                break;
            }
            case 10:
                c = call("stop", task);
                if (below(2) == 0) {
                    history.add(c);
                    same(c, real.stop(task), model.stop(task));
                }
                break;
            case 11:
                c = call("quiet", task);
                history.add(c);
                same(c, real.quiet(task), model.quiet(task));
                break;
            case 12:
                c = call("join", task);
                history.add(c);
                same(c, real.join(task), model.join(task));
                break;
            case 13:
                history.add("compact()");
                same("compact()", real.compact(), model.compact());
                break;
            case 14: {
                boolean taken = below(3) > 0;
                c = call("image", taken);
                history.add(c);
                same(c, real.image(taken), model.image(taken));
                break;
            }
            default:
                tellSetting();
                tellLine(from(-1, 10), from(0, 10), below(4), below(4), below(4));
        }
    }

    // ---- looking

    private void compareAll() {
        for (int what = -1; what <= 15; what++) same(call("look", what), real.look(what), model.look(what));
        for (int what = -1; what <= 12; what++) same(call("count", what), real.count(what), model.count(what));
        for (int what = -1; what <= 3; what++) same(call("never", what), real.never(what), model.never(what));
        for (int f = -1; f <= 10; f++) {
            same(call("deep", f), real.deep(f), model.deep(f));
            same(call("need", f), real.need(f), model.need(f));
        }
        for (int i = -1; i <= 41; i++) {
            for (int what = -1; what <= 4; what++) {
                same(call("log", i, what), real.log(i, what), model.log(i, what));
            }
        }
        int gaps = model.gap(-1, 0);
        for (int i = -2; i <= gaps; i++) {
            for (int what = -1; what <= 2; what++) {
                same(call("gap", i, what), real.gap(i, what), model.gap(i, what));
            }
        }
        for (int t = -1; t <= 6; t++) compareTask(t);
    }

    private void compareTask(int t) {
        for (int what = -1; what <= 19; what++) same(call("task", t, what), real.task(t, what), model.task(t, what));
        int pieces = model.task(t, 6);
        for (int i = -1; i <= pieces; i++) {
            for (int what = -1; what <= 4; what++) {
                same(call("piece", t, i, what), real.piece(t, i, what), model.piece(t, i, what));
            }
        }
        int frames = model.task(t, 4);
        int stride = frames > 30 ? from(1, 7) : 1;
        for (int i = -1; i <= frames; i += stride) {
            for (int what = -1; what <= 8; what++) {
                same(call("frame", t, i, what), real.frame(t, i, what), model.frame(t, i, what));
            }
            for (int s = -1; s <= 8; s++) {
                for (int what = -1; what <= 4; what++) {
                    same(call("slot", t, i, s, what), real.slot(t, i, s, what), model.slot(t, i, s, what));
                }
            }
        }
    }

    private void think() {
        int f = from(-1, 10);
        int a = from(-2, 60);
        for (int what = -1; what <= 3; what++) {
            same(call("endless", f, a, what), real.endless(f, a, what), model.endless(f, a, what));
        }
        int mode = below(20) == 0 ? from(-1, 2) : below(2);
        for (int what = -1; what <= 7; what++) {
            same(call("alone", f, a, mode, what), real.alone(f, a, mode, what), model.alone(f, a, mode, what));
        }
        int task = from(-1, 6);
        int n = below(10) == 0 ? from(-1, 202) : from(1, 200);
        for (int what = -1; what <= 5; what++) {
            same(call("land", task, n, what), real.land(task, n, what), model.land(task, n, what));
        }
    }

    private int run(long seed, long[] seen) {
        for (int i = below(7); i > 0; i--) tellSetting();
        tellProgram();
        for (int i = 0; i < CALLS && wrong == 0; i++) {
            act();
            if (below(3) == 0) compareAll();
            if (below(10) == 0) think();
        }
        compareAll();
        for (int i = 0; i < 12; i++) seen[i] += model.count(i);
        for (int[] line : model.log) seen[12 + line[0]]++;
        if (wrong > 0) {
            System.out.println("run " + seed + " went wrong:");
            for (String line : history) System.out.println("  " + line);
        }
        return wrong;
    }

    public static void main(String[] args) {
        int runs = args.length > 0 ? Integer.parseInt(args[0]) : RUNS;
        long[] seen = new long[22];
        for (long seed = 1; seed <= runs; seed++) {
            if (new ModelTest(seed).run(seed, seen) > 0) {
                System.exit(1);
            }
        }
        StringBuilder b = new StringBuilder("counts and lines of the log seen:");
        boolean all = true;
        for (long n : seen) {
            b.append(' ').append(n);
            all = all && n > 0;
        }
        System.out.println(b);
        if (!all) {
            System.out.println("something was never seen: the runs test too little");
            System.exit(1);
        }
    }
}
