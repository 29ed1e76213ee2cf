import java.io.ByteArrayInputStream;
import java.io.ByteArrayOutputStream;
import java.io.IOException;
import java.io.ObjectInputStream;
import java.io.ObjectOutputStream;
import java.io.Serializable;
import java.util.ArrayList;
import java.util.HashMap;
import java.util.HashSet;
import java.util.List;
import java.util.Map;
import java.util.Set;
import java.util.TreeMap;

/**
 * The document once more, written as unlike the class as can be: FRAMES are objects, a POINTER is a
 * reference to a FRAME and a SLOT, no WORD is ever turned, and places are reckoned only when asked for.
 */
final class Model implements Serializable {
    private static final long serialVersionUID = 1L;
    static final int NO_WORD = -1000000000;

    static final class Line implements Serializable {
        private static final long serialVersionUID = 1L;
        int kind, a, b, c;
    }

    static final class Function implements Serializable {
        private static final long serialVersionUID = 1L;
        boolean[] pointer;
        List<Line> lines = new ArrayList<>();
    }

    static final class Pointer implements Serializable {
        private static final long serialVersionUID = 1L;
        Frame frame;
        int slot;
    }

    static final class Frame implements Serializable {
        private static final long serialVersionUID = 1L;
        int function, next;
        Frame caller;
        boolean covered, calledBack;
        int[] numbers;
        Pointer[] pointers;

        int words() {
            return numbers.length + 2;
        }
    }

    static final class Piece implements Serializable {
        private static final long serialVersionUID = 1L;
        int place, words;
        List<Frame> frames = new ArrayList<>();

        int used() {
            int n = 0;
            for (Frame f : frames) n += f.words();
            return n;
        }
    }

    static final class Task implements Serializable {
        private static final long serialVersionUID = 1L;
        int state, mode, result, steps, checked, greater, over, splits, smaller, again, most;
        int side = -1, sideUsed;
        List<Piece> pieces = new ArrayList<>();
        Piece spare;

        List<Frame> frames() {
            List<Frame> all = new ArrayList<>();
            for (Piece p : pieces) all.addAll(p.frames);
            return all;
        }

        Frame last() {
            List<Frame> all = frames();
            return all.isEmpty() ? null : all.get(all.size() - 1);
        }

        Piece lastPiece() {
            return pieces.get(pieces.size() - 1);
        }

        int used() {
            int n = 0;
            for (Piece p : pieces) n += p.used();
            return n;
        }

        int words() {
            int n = spare == null ? 0 : spare.words;
            for (Piece p : pieces) n += p.words;
            return n;
        }

        boolean on() {
            return state == 1 || state == 2;
        }
    }

    int[] settings = {16, 1, 1, 40, 1, 60};
    Function[] functions = new Function[10];
    Task[] tasks = new Task[6];
    List<int[]> log = new ArrayList<>();
    int[] counts = new int[12];
    boolean endlessStack, grew;
    private transient byte[] image;

    Model() {
        for (int i = 0; i < 6; i++) tasks[i] = new Task();
    }

    // ---- telling

    boolean busy() {
        for (Task t : tasks) if (t.on()) return true;
        return false;
    }

    boolean told(int f) {
        return f >= 0 && f < 10 && functions[f] != null;
    }

    boolean set(int what, int v) {
        int[][] range = {{8, 64}, {0, 1}, {0, 1}, {10, 80}, {1, 3}, {10, 90}};
        if (busy() || what < 0 || what > 5 || v < range[what][0] || v > range[what][1]) return false;
        settings[what] = v;
        return true;
    }

    boolean function(int f, int size, int pointers) {
        if (busy() || f < 0 || f > 9 || size < 0 || size > 8 || pointers >>> size != 0) return false;
        functions[f] = null;
        if (size > 0) {
            functions[f] = new Function();
            functions[f].pointer = new boolean[size];
            for (int s = 0; s < size; s++) functions[f].pointer[s] = (pointers & 1 << s) != 0;
        }
        return true;
    }

    int line(int f, int kind, int a, int b, int c) {
        if (busy() || !told(f) || functions[f].lines.size() == 16) return -1;
        // N: a NUMBER, P: a POINTER, S: any SLOT, F: a FUNCTION, f: a FUNCTION or NONE, L, V, W: bounds, -: nothing
        String[] forms = {"NV-", "NNN", "NNN", "PN-", "NP-", "PN-", "FSN", "NL-", "N--", "WfN", "---"};
        if (kind < 0 || kind > 10) return -1;
        int[] values = {a, b, c};
        boolean[] pointer = functions[f].pointer;
        for (int i = 0; i < 3; i++) {
            int v = values[i];
            boolean slot = v >= 0 && v < pointer.length;
            boolean good;
            switch (forms[kind].charAt(i)) {
                case 'N': good = slot && !pointer[v]; break;
                case 'P': good = slot && pointer[v]; break;
                case 'S': good = slot; break;
                case 'F': good = v >= 0 && v <= 9; break;
                case 'f': good = v >= -1 && v <= 9; break;
                case 'L': good = v >= 0 && v <= 15; break;
                case 'V': good = v >= -999 && v <= 999; break;
                case 'W': good = v >= 1 && v <= 40; break;
                default: good = true;
            }
            if (!good) return -1;
        }
        Line l = new Line();
        l.kind = kind;
        l.a = a;
        l.b = b;
        l.c = c;
        functions[f].lines.add(l);
        return functions[f].lines.size() - 1;
    }

    /** DEEP by following every way; -2 as soon as a way comes to where it was. */
    int deepOf(int f, Set<Integer> way, Map<Integer, Integer> known) {
        if (!told(f)) return 0;
        if (known.containsKey(f)) return known.get(f);
        if (!way.add(f)) return -2;
        int most = 0;
        for (Line l : functions[f].lines) {
            int called = l.kind == 6 ? l.a : l.kind == 9 ? l.b : -1;
            if (called == -1) continue;
            int d = deepOf(called, way, known);
            if (d == -2) return -2;
            most = Math.max(most, d);
        }
        way.remove(f);
        known.put(f, most + functions[f].pointer.length + 2);
        return known.get(f);
    }

    int deep(int f) {
        return told(f) ? deepOf(f, new HashSet<>(), new HashMap<>()) : -1;
    }

    int need(int f) {
        if (!told(f)) return -1;
        return coversOf(f) ? deep(f) : functions[f].pointer.length + 2;
    }

    boolean coversOf(int f) {
        int d = deep(f);
        return settings[2] == 1 && d != -2 && d <= settings[3];
    }

    // ---- memory

    boolean[] takenWords() {
        boolean[] taken = new boolean[2048];
        for (Piece p : allPieces().values()) {
            for (int i = 0; i < p.words; i++) {
                if (taken[p.place + i]) throw new IllegalStateException("two PIECES have one WORD");
                taken[p.place + i] = true;
            }
        }
        return taken;
    }

    TreeMap<Integer, Piece> allPieces() {
        TreeMap<Integer, Piece> all = new TreeMap<>();
        for (Task t : tasks) {
            for (Piece p : t.pieces) all.put(p.place, p);
            if (t.spare != null) all.put(t.spare.place, t.spare);
        }
        return all;
    }

    List<int[]> gaps() {
        boolean[] taken = takenWords();
        List<int[]> gaps = new ArrayList<>();
        for (int i = 0; i < 2048; i++) {
            if (taken[i]) continue;
            if (i == 0 || taken[i - 1]) gaps.add(new int[] {i, 0});
            gaps.get(gaps.size() - 1)[1]++;
        }
        return gaps;
    }

    Piece take(int words) {
        for (int[] g : gaps()) {
            if (g[1] >= words) {
                Piece p = new Piece();
                p.place = g[0];
                p.words = words;
                return p;
            }
        }
        return null;
    }

    int number(Task t) {
        for (int i = 0; i < 6; i++) if (tasks[i] == t) return i;
        return -1;
    }

    void write(int what, Task t, Piece p) {
        log.add(new int[] {what, number(t), p == null ? -1 : p.place, p == null ? -1 : p.words});
    }

    // ---- steps

    boolean start(int task, int f, int a, int mode) {
        if (task < 0 || task > 5 || tasks[task].on() || !told(f) || mode < 0 || mode > 1) return false;
        Piece p = endlessStack ? new Piece() : take(settings[0]);
        if (p == null) return false;
        Task t = new Task();
        tasks[task] = t;
        t.state = 1;
        t.mode = mode;
        t.pieces.add(p);
        call(t, f, null, false, a, null, false);
        return true;
    }

    void call(Task t, int f, Frame caller, boolean back, int number, Pointer pointer, boolean isPointer) {
        boolean covered;
        if (caller != null && caller.covered) {
            covered = true;
            counts[11]++;
        } else {
            covered = coversOf(f);
            t.checked++;
            counts[3]++;
            int need = need(f);
            if (!endlessStack && t.lastPiece().used() + need > t.lastPiece().words) {
                grew = true;
                if (!grow(t, need)) {
                    out(t);
                    return;
                }
            }
        }
        Function fn = functions[f];
        Frame fr = new Frame();
        fr.function = f;
        fr.caller = caller;
        fr.covered = covered;
        fr.calledBack = back;
        fr.numbers = new int[fn.pointer.length];
        fr.pointers = new Pointer[fn.pointer.length];
        if (fn.pointer[0] && isPointer) fr.pointers[0] = pointer;
        if (!fn.pointer[0] && !isPointer) fr.numbers[0] = number;
        t.lastPiece().frames.add(fr);
        t.most = Math.max(t.most, t.used());
    }

    boolean grow(Task t, int need) {
        if (t.mode == 0) {
            Piece old = t.lastPiece();
            int words = old.words * 2;
            while (words < old.used() + need) words *= 2;
            return move(t, words, 0);
        }
        if (t.spare != null && t.spare.words >= need) {
            t.pieces.add(t.spare);
            t.spare = null;
            t.again++;
            counts[8]++;
            write(4, t, t.lastPiece());
            return true;
        }
        giveSpare(t);
        Piece p = take(Math.max(settings[0], need));
        if (p == null) return false;
        t.pieces.add(p);
        t.splits++;
        counts[6]++;
        write(2, t, p);
        return true;
    }

    boolean giveSpare(Task t) {
        if (t.spare == null) return false;
        write(5, t, t.spare);
        t.spare = null;
        return true;
    }

    boolean move(Task t, int words, int what) {
        Piece p = take(words);
        if (p == null) return false;
        p.frames = t.lastPiece().frames;
        t.pieces.clear();
        t.pieces.add(p);
        t.over += p.used();
        counts[5] += p.used();
        if (what == 0) {
            t.greater++;
            counts[4]++;
        } else {
            t.smaller++;
            counts[7]++;
        }
        write(what, t, p);
        return true;
    }

    void drop(Task t) {
        t.pieces.clear();
        t.spare = null;
        t.side = -1;
        t.sideUsed = 0;
    }

    void out(Task t) {
        drop(t);
        t.state = 4;
        counts[1]++;
        write(8, t, null);
    }

    void returns(Task t, int value) {
        Frame fr = t.last();
        Piece p = null;
        for (Piece q : t.pieces) if (q.frames.contains(fr)) p = q;
        p.frames.remove(p.frames.size() - 1);
        if (p.frames.isEmpty() && t.pieces.indexOf(p) > 0) {
            t.pieces.remove(p);
            if (settings[1] == 1) {
                giveSpare(t);
                t.spare = p;
                write(3, t, p);
            } else {
                write(5, t, p);
            }
        }
        if (fr.caller == null) {
            drop(t);
            t.result = value;
            t.state = 3;
            counts[0]++;
            write(9, t, null);
            return;
        }
        Line l = functions[fr.caller.function].lines.get(fr.caller.next - 1);
        fr.caller.numbers[l.c] = value;
        if (fr.calledBack) foreignOver(t, l.a);
    }

    void foreignOver(Task t, int words) {
        counts[9]++;
        t.sideUsed -= words;
        if (t.sideUsed == 0) t.side = -1;
    }

    void foreign(Task t, Frame fr, Line l) {
        if (endlessStack) t.side = 0;
        for (int s = 0; s < settings[4] && t.side == -1; s++) {
            boolean free = true;
            for (Task o : tasks) if (o.side == s) free = false;
            if (free) t.side = s;
        }
        if (t.side == -1) {
            t.state = 2;
            counts[10]++;
            fr.next--;
            return;
        }
        t.state = 1;
        if (!endlessStack && t.sideUsed + l.a > settings[5]) {
            out(t);
            return;
        }
        t.sideUsed += l.a;
        if (!told(l.b)) {
            fr.numbers[l.c] = 3 * fr.numbers[l.c] + 1;
            foreignOver(t, l.a);
        } else {
            call(t, l.b, fr, true, fr.numbers[l.c], null, false);
        }
    }

    void stepOf(Task t) {
        t.steps++;
        counts[2]++;
        Frame fr = t.last();
        List<Line> lines = functions[fr.function].lines;
        if (fr.next >= lines.size()) {
            returns(t, 0);
            return;
        }
        Line l = lines.get(fr.next);
        fr.next++;
        int[] n = fr.numbers;
        switch (l.kind) {
            case 0: n[l.a] = l.b; break;
            case 1: n[l.a] = n[l.b] + n[l.c]; break;
            case 2: n[l.a] = n[l.b] < n[l.c] ? 1 : 0; break;
            case 3:
                fr.pointers[l.a] = new Pointer();
                fr.pointers[l.a].frame = fr;
                fr.pointers[l.a].slot = l.b;
                break;
            case 4: n[l.a] = fr.pointers[l.b] == null ? 0 : fr.pointers[l.b].frame.numbers[fr.pointers[l.b].slot]; break;
            case 5: if (fr.pointers[l.a] != null) fr.pointers[l.a].frame.numbers[fr.pointers[l.a].slot] = n[l.b]; break;
            case 6:
                if (!told(l.a)) n[l.c] = 0;
                else call(t, l.a, fr, false, n[l.b], fr.pointers[l.b], functions[fr.function].pointer[l.b]);
                break;
            case 7: if (n[l.a] > 0) fr.next = l.b; break;
            case 8: returns(t, n[l.a]); break;
            case 9: foreign(t, fr, l); break;
            default: quietOf(t);
        }
    }

    int step(int task, int n) {
        if (task < 0 || task > 5 || n < 1 || n > 200) return -1;
        int made = 0;
        while (made < n && tasks[task].on()) {
            stepOf(tasks[task]);
            made++;
        }
        return made;
    }

    int round(int n) {
        if (n < 1 || n > 100) return -1;
        int made = 0;
        for (int i = 0; i < n; i++) for (int t = 0; t < 6; t++) made += step(t, 1);
        return made;
    }

    boolean stop(int task) {
        if (task < 0 || task > 5 || tasks[task].state == 0) return false;
        tasks[task] = new Task();
        return true;
    }

    int kept(Task t) {
        return t.used() + (t.last().covered ? settings[3] : 0);
    }

    boolean quietOf(Task t) {
        if (t.mode == 1) return giveSpare(t);
        if (endlessStack) return false;
        int words = t.lastPiece().words;
        return 4 * kept(t) <= words && words / 2 >= settings[0] && move(t, words / 2, 1);
    }

    boolean quiet(int task) {
        return task >= 0 && task < 6 && tasks[task].on() && quietOf(tasks[task]);
    }

    boolean join(int task) {
        if (task < 0 || task > 5 || !tasks[task].on() || tasks[task].mode == 0) return false;
        Task t = tasks[task];
        int words = settings[0];
        while (words < kept(t)) words *= 2;
        Piece p = take(words);
        if (p == null) return false;
        p.frames = t.frames();
        t.pieces.clear();
        t.pieces.add(p);
        t.spare = null;
        t.mode = 0;
        t.over += p.used();
        counts[5] += p.used();
        write(6, t, p);
        return true;
    }

    int compact() {
        int end = 0;
        int moved = 0;
        for (Piece p : allPieces().values()) {
            if (p.place != end) {
                p.place = end;
                for (Task t : tasks) if (t.spare == p || t.pieces.contains(p)) write(7, t, p);
                moved++;
            }
            end += p.words;
        }
        return moved;
    }

    // ---- looking

    int task(int task, int what) {
        if (task < 0 || task > 5) return -1;
        Task t = tasks[task];
        Frame last = t.last();
        int[] facts = {t.state, t.mode, t.result, t.steps, t.frames().size(), t.used(),
            t.pieces.size() + (t.spare == null ? 0 : 1), t.words(), t.side, t.sideUsed,
            last == null ? -1 : last.function, last == null ? -1 : last.next,
            t.checked, t.greater, t.over, t.splits, t.smaller, t.again, t.most};
        return what < 0 || what > 18 ? -1 : facts[what];
    }

    int placeOf(Task t, Frame fr) {
        for (Piece p : t.pieces) {
            int at = p.place;
            for (Frame q : p.frames) {
                if (q == fr) return at;
                at += q.words();
            }
        }
        return -1;
    }

    int frame(int task, int i, int what) {
        if (task < 0 || task > 5 || i < 0) return -1;
        Task t = tasks[task];
        List<Frame> all = t.frames();
        if (i >= all.size() || what < 0 || what > 7) return -1;
        Frame fr = all.get(i);
        int piece = 0;
        while (!t.pieces.get(piece).frames.contains(fr)) piece++;
        int back = fr.caller == null ? 0 : 32 * fr.caller.function + fr.caller.next;
        back += (fr.covered ? 1024 : 0) + (fr.calledBack ? 2048 : 0);
        int[] facts = {fr.function, placeOf(t, fr), piece, fr.covered ? 1 : 0, fr.next, fr.calledBack ? 1 : 0,
            fr.caller == null ? -1 : placeOf(t, fr.caller), back};
        return facts[what];
    }

    int slot(int task, int i, int s, int what) {
        if (task < 0 || task > 5 || i < 0) return NO_WORD;
        Task t = tasks[task];
        List<Frame> all = t.frames();
        if (i >= all.size() || what < 0 || what > 3) return NO_WORD;
        Frame fr = all.get(i);
        if (s < 0 || s >= fr.numbers.length) return NO_WORD;
        boolean pointer = functions[fr.function].pointer[s];
        Pointer p = fr.pointers[s];
        switch (what) {
            case 0: return pointer ? 1 : 0;
            case 1: return !pointer ? fr.numbers[s] : p == null ? -1 : placeOf(t, p.frame) + 2 + p.slot;
            case 2: return p == null ? -1 : all.indexOf(p.frame);
            default: return p == null ? -1 : p.slot;
        }
    }

    int piece(int task, int i, int what) {
        if (task < 0 || task > 5 || i < 0) return -1;
        Task t = tasks[task];
        List<Piece> all = new ArrayList<>(t.pieces);
        if (t.spare != null) all.add(t.spare);
        if (i >= all.size() || what < 0 || what > 3) return -1;
        Piece p = all.get(i);
        int[] facts = {p.place, p.words, p.used(), p == t.spare ? 1 : 0};
        return facts[what];
    }

    int gap(int i, int what) {
        List<int[]> gaps = gaps();
        if (i == -1) return gaps.size();
        return i < 0 || i >= gaps.size() || what < 0 || what > 1 ? -1 : gaps.get(i)[what];
    }

    int log(int i, int what) {
        if (i < 0 || i >= 40 || i >= log.size() || what < 0 || what > 3) return -1;
        return log.get(log.size() - 1 - i)[what];
    }

    int never(int what) {
        return what < 0 || what > 2 ? -1 : 0;
    }

    int count(int what) {
        return what < 0 || what > 11 ? -1 : counts[what];
    }

    int look(int what) {
        if (what < 0 || what > 14) return -1;
        if (what < 6) return settings[what];
        int going = 0, waiting = 0, sides = 0, told = 0, lines = 0, words = 0, greatest = 0;
        for (Task t : tasks) {
            going += t.state == 1 ? 1 : 0;
            waiting += t.state == 2 ? 1 : 0;
            sides += t.side != -1 ? 1 : 0;
            words += t.words();
        }
        for (Function f : functions) {
            told += f != null ? 1 : 0;
            lines += f != null ? f.lines.size() : 0;
        }
        for (int[] g : gaps()) greatest = Math.max(greatest, g[1]);
        int[] facts = {words, allPieces().size(), greatest, sides, going, waiting, told, lines, log.size()};
        return facts[what - 6];
    }

    // ---- thoughts

    Model bare() {
        Model m = new Model();
        m.settings = settings.clone();
        m.functions = functions;
        return m;
    }

    int endless(int f, int a, int what) {
        if (!told(f) || what < 0 || what > 2) return NO_WORD;
        Model m = bare();
        m.endlessStack = true;
        m.start(0, f, a, 0);
        for (int i = 0; i < 2000; i++) m.step(0, 1);
        Task t = m.tasks[0];
        if (t.state != 3) return NO_WORD;
        return what == 0 ? t.result : what == 1 ? t.steps : t.most;
    }

    int land(int task, int n, int what) {
        if (task < 0 || task > 5 || n < 1 || n > 200 || what < 0 || what > 4) return -1;
        Model m = copy();
        m.step(task, n);
        int[] whats = {0, 4, 5, 7, 14};
        return m.task(task, whats[what]);
    }

    int alone(int f, int a, int mode, int what) {
        if (!told(f) || mode < 0 || mode > 1 || what < 0 || what > 6) return -1;
        if (what == 6) {
            for (int first = 8; first <= 64; first *= 2) {
                Model m = bare();
                m.settings[0] = first;
                m.start(0, f, a, mode);
                for (int i = 0; i < 2000 && !m.grew; i++) m.step(0, 1);
                if (!m.grew) return first;
            }
            return -1;
        }
        Model m = bare();
        m.start(0, f, a, mode);
        int most = m.task(0, 7);
        for (int i = 0; i < 2000; i++) {
            if (m.step(0, 1) == 0) break;
            most = Math.max(most, m.tasks[0].words());
        }
        int[] whats = {0, 3, 12, 14, 15};
        return what == 5 ? most : m.task(0, whats[what]);
    }

    // ---- the image

    byte[] bytes() {
        try {
            ByteArrayOutputStream out = new ByteArrayOutputStream();
            try (ObjectOutputStream o = new ObjectOutputStream(out)) {
                o.writeObject(this);
            }
            return out.toByteArray();
        } catch (IOException e) {
            throw new IllegalStateException(e);
        }
    }

    static Model of(byte[] bytes) {
        try (ObjectInputStream in = new ObjectInputStream(new ByteArrayInputStream(bytes))) {
            return (Model) in.readObject();
        } catch (IOException | ClassNotFoundException e) {
            throw new IllegalStateException(e);
        }
    }

    Model copy() {
        return of(bytes());
    }

    boolean image(boolean taken) {
        if (taken) {
            image = bytes();
        } else if (image != null) {
            Model m = of(image);
            settings = m.settings;
            functions = m.functions;
            tasks = m.tasks;
            log = m.log;
            counts = m.counts;
        }
        return image != null;
    }
}
