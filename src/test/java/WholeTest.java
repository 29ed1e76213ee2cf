/** Promises 23 to 26: what never is, what is counted, the image, and what can be looked at. */
public final class WholeTest {
    private static final Due DUE = new Due();

    public static void main(String[] args) {
        neverWrong();
        counts();
        imageGoesBack();
        imageKeepsWhatIsTold();
        looks();
        DUE.end();
    }

    /** All that can be asked of an object but its thoughts, in one text. */
    static String all(GrowingStacks x) {
        StringBuilder b = new StringBuilder();
        for (int i = 0; i <= 14; i++) b.append(x.look(i)).append(' ');
        for (int i = 0; i <= 11; i++) b.append(x.count(i)).append(' ');
        for (int i = 0; i < 3; i++) b.append(x.never(i)).append(' ');
        for (int f = 0; f < 10; f++) b.append(x.deep(f)).append(' ').append(x.need(f)).append(' ');
        for (int i = 0; i < 40; i++) {
            for (int w = 0; w < 4; w++) b.append(x.log(i, w)).append(' ');
        }
        for (int i = 0; i < x.gap(-1, 0); i++) b.append(x.gap(i, 0)).append(' ').append(x.gap(i, 1)).append(' ');
        for (int t = 0; t < 6; t++) {
            b.append("\nTASK ");
            for (int w = 0; w <= 18; w++) b.append(x.task(t, w)).append(' ');
            for (int i = 0; i < x.task(t, 6); i++) {
                for (int w = 0; w < 4; w++) b.append(x.piece(t, i, w)).append(' ');
            }
            for (int i = 0; i < x.task(t, 4); i++) {
                for (int w = 0; w < 8; w++) b.append(x.frame(t, i, w)).append(' ');
                for (int s = 0; s < 8; s++) {
                    for (int w = 0; w < 4; w++) b.append(x.slot(t, i, s, w)).append(' ');
                }
            }
        }
        return b.toString();
    }

    private static void neverWrong() {
        GrowingStacks x = new GrowingStacks();
        x.set(0, 8);
        x.set(3, 10);
        x.function(0, 4, 4);
        x.line(0, Programs.POINT, 2, 0, 0);
        x.line(0, Programs.CALL, 1, 2, 3);
        x.line(0, Programs.RETURN, 3, 0, 0);
        x.function(1, 5, 3);
        x.line(1, Programs.LOAD, 2, 0, 0);
        x.line(1, Programs.SET, 3, -1, 0);
        x.line(1, Programs.ADD, 3, 2, 3);
        x.line(1, Programs.JUMP, 3, 5, 0);
        x.line(1, Programs.RETURN, 2, 0, 0);
        x.line(1, Programs.POINT, 1, 3, 0);
        x.line(1, Programs.CALL, 1, 1, 4);
        x.line(1, Programs.ADD, 2, 2, 4);
        x.line(1, Programs.RETURN, 2, 0, 0);
        for (int t = 0; t < 6; t++) {
            DUE.yes("start", x.start(t, 0, 3 + 2 * t, t % 2));
        }
        for (int i = 0; i < 40; i++) {
            x.round(3);
            x.compact();
            x.quiet(i % 6);
            if (i == 10) {
                DUE.yes("join(5)", x.join(5));
            }
            DUE.is("never(1)", x.never(1), 0);
            DUE.is("never(2)", x.never(2), 0);
        }
        for (int t = 0; t < 6; t++) {
            int n = 3 + 2 * t;
            DUE.is("RESULT of TASK " + t, x.task(t, 2), n * (n + 1) / 2);
        }
        DUE.is("never(0)", x.never(0), 0);
        DUE.is("never(-1)", x.never(-1), -1);
        DUE.is("never(3)", x.never(3), -1);
    }

    /** Counts of TASKS that are stopped, or begin anew, stay. */
    private static void counts() {
        GrowingStacks x = new GrowingStacks();
        Programs.sum(x, 0);
        Programs.foreign(x, 1, 1, 5, -1);
        Programs.foreign(x, 2, 1, 40, 1);
        Programs.forever(x, 3, 8);
        for (int i = 0; i < 3; i++) {
            x.start(0, 0, 3, i % 2);
            x.step(0, 200);
        }
        x.start(0, 2, 1, 0);
        x.step(0, 1);
        x.start(1, 1, 1, 0);
        x.step(1, 2);
        x.stop(1);
        x.step(0, 3);
        x.start(0, 3, 0, 0);
        x.step(0, 200);
        x.stop(0);
        int over = 10 + 30 + 60 + 120 + 250 + 510;
        int[] due = {4, 1, 3 * 21 + 1 + 2 + 3 + 102, 3 * 4 + 1 + 1 + 103, 2 + 6, 2 * 15 + over, 1, 0, 0, 2, 2, 1};
        for (int what = 0; what < 12; what++) {
            DUE.is("count(" + what + ")", x.count(what), due[what]);
        }
        DUE.is("count(-1)", x.count(-1), -1);
        DUE.is("count(12)", x.count(12), -1);
    }

    private static void imageGoesBack() {
        GrowingStacks x = new GrowingStacks();
        DUE.no("image(false)", x.image(false));
        x.set(0, 8);
        Programs.sum(x, 0);
        x.start(0, 0, 9, 0);
        x.start(1, 0, 9, 1);
        x.round(20);
        String first = all(x);
        DUE.yes("image(true)", x.image(true));
        DUE.yes("taking it changes nothing", first.equals(all(x)));
        x.round(20);
        String second = all(x);
        DUE.no("it goes on", first.equals(second));
        x.compact();
        x.stop(0);
        for (int i = 0; i < 2; i++) {
            DUE.yes("image(false)", x.image(false));
            DUE.yes("as it was", first.equals(all(x)));
            x.round(20);
            DUE.yes("all goes on from there", second.equals(all(x)));
        }
        DUE.yes("image(true) again", x.image(true));
        x.round(100);
        DUE.is("RESULT", x.task(0, 2), 45);
        x.image(false);
        DUE.yes("as it was at the later one", second.equals(all(x)));
    }

    private static void imageKeepsWhatIsTold() {
        GrowingStacks x = new GrowingStacks();
        Programs.sum(x, 0);
        x.set(3, 17);
        x.image(true);
        x.function(0, 0, 0);
        Programs.same(x, 1, 4);
        x.set(3, 50);
        x.image(false);
        DUE.is("deep(0)", x.deep(0), -2);
        DUE.is("deep(1)", x.deep(1), -1);
        DUE.is("look(3)", x.look(3), 17);
        DUE.is("look(13)", x.look(13), 7);
        DUE.is("endless(0, 3, 0)", x.endless(0, 3, 0), 6);
        x.image(true);
        x.start(0, 0, 3, 0);
        DUE.no("GOING: set(3, 20)", x.set(3, 20));
        x.image(false);
        DUE.yes("no TASK is GOING any more: set(3, 20)", x.set(3, 20));
        DUE.is("look(6)", x.look(6), 0);
    }

    private static void looks() {
        GrowingStacks x = new GrowingStacks();
        x.set(2, 0);
        Programs.same(x, 1, 8);
        Programs.loop(x, 0, 8, 1);
        x.start(0, 0, 3, 1);
        x.start(1, 0, 3, 0);
        x.step(0, 3);
        x.step(1, 2);
        // 0: of TASK 0, and 32 its SPARE; TASK 1 lay at 16 and has come to 48
        int[] due = {16, 1, 0, 40, 1, 60, 16 + 16 + 32, 3, 2048 - 80, 0, 2, 0, 2, 6, 3};
        for (int what = 0; what <= 14; what++) {
            DUE.is("look(" + what + ")", x.look(what), due[what]);
        }
        DUE.is("gap(0, 0)", x.gap(0, 0), 16);
        DUE.is("gap(0, 1)", x.gap(0, 1), 16);
        DUE.is("look(-1)", x.look(-1), -1);
        DUE.is("look(15)", x.look(15), -1);
    }
}
