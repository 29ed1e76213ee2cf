import java.lang.reflect.Field;
import java.util.Random;

/**
 * Promise 23, from within: what never is can't be brought about by calls, so WORDS of the memory are overwritten here
 * (the only test that knows of the class's own fields), and never() has to tell of it.
 */
public final class NeverTest {
    private static final Due DUE = new Due();

    public static void main(String[] args) throws ReflectiveOperationException {
        anotherResult();
        anotherResultByRounds();
        notToldOfEndless();
        imageOfWhatWas();
        pointerToANumberOfItsTask();
        pointerIntoAnotherPiece();
        eachPointerOfAFrame();
        baseOfWhoCalled();
        frameInItsPiece();
        wordInCommon();
        anyWords();
        DUE.end();
    }

    private static int[] memory(GrowingStacks x) throws ReflectiveOperationException {
        Field now = GrowingStacks.class.getDeclaredField("now");
        now.setAccessible(true);
        Object world = now.get(x);
        Field memory = world.getClass().getDeclaredField("memory");
        memory.setAccessible(true);
        Object held = memory.get(world);
        Field words = held.getClass().getDeclaredField("words");
        words.setAccessible(true);
        return (int[]) words.get(held);
    }

    private static void never(GrowingStacks x, int results, int places, int frames) {
        DUE.is("never(0)", x.never(0), results);
        DUE.is("never(1)", x.never(1), places);
        DUE.is("never(2)", x.never(2), frames);
    }

    /** "how often there was .. 0 a TASK that was DONE with another RESULT than that of an ENDLESS stack". */
    private static void anotherResult() throws ReflectiveOperationException {
        GrowingStacks x = new GrowingStacks();
        Programs.same(x, 0, 1);
        for (int i = 1; i <= 3; i++) {
            x.start(0, 0, 5, 0);
            memory(x)[2] = 6;
            never(x, i - 1, 0, 0);
            x.step(0, 2);
            DUE.is("RESULT", x.task(0, 2), 6);
            never(x, i, 0, 0);
            x.step(0, 2);
            x.round(2);
            never(x, i, 0, 0);
        }
        x.start(0, 0, 5, 0);
        x.step(0, 2);
        never(x, 3, 0, 0);
        x.step(0, 2);
        x.stop(0);
        never(x, 3, 0, 0);
    }

    private static void anotherResultByRounds() throws ReflectiveOperationException {
        GrowingStacks x = new GrowingStacks();
        Programs.same(x, 0, 1);
        for (int t = 0; t < 6; t++) {
            x.start(t, 0, 5, t % 2);
            memory(x)[16 * t + 2] = t;
        }
        x.round(3);
        never(x, 5, 0, 0);
    }

    /** "(of those that this is told of)": not of one that is not DONE by 2000 STEPS there. */
    private static void notToldOfEndless() throws ReflectiveOperationException {
        GrowingStacks x = new GrowingStacks();
        x.function(0, 1, 0);
        x.line(0, Programs.JUMP, 0, 0, 0);
        x.line(0, Programs.RETURN, 0, 0, 0);
        DUE.is("endless(0, 1, 0)", x.endless(0, 1, 0), Programs.NO_WORD);
        x.start(0, 0, 1, 0);
        x.step(0, 5);
        memory(x)[2] = -3;
        x.step(0, 5);
        DUE.is("DONE", x.task(0, 0), 3);
        never(x, 0, 0, 0);
    }

    private static void imageOfWhatWas() throws ReflectiveOperationException {
        GrowingStacks x = new GrowingStacks();
        Programs.same(x, 0, 1);
        x.image(true);
        x.start(0, 0, 5, 0);
        memory(x)[2] = 6;
        x.step(0, 1);
        never(x, 1, 0, 0);
        x.image(false);
        never(x, 0, 0, 0);
    }

    /** FRAMES of 5 WORDS: NUMBER 0, POINTER 1, NUMBER 2; two of TASK 0 from place 0 on, one of TASK 1 at 32. */
    private static GrowingStacks pointing() {
        GrowingStacks x = new GrowingStacks();
        x.function(0, 3, 0b010);
        x.line(0, Programs.POINT, 1, 2, 0);
        x.line(0, Programs.CALL, 0, 1, 2);
        x.start(0, 0, 3, 0);
        x.start(2, 0, 3, 0);
        x.start(1, 0, 3, 0);
        x.stop(2);
        x.step(0, 3);
        x.step(1, 1);
        DUE.slots(x, 0, 0, 3, 4, 0);
        DUE.slots(x, 0, 1, 0, 9, 0);
        DUE.slots(x, 1, 0, 3, 36, 0);
        never(x, 0, 0, 0);
        return x;
    }

    /** "1 a POINTER, not NOWHERE, that does not point to a NUMBER of a FRAME of its TASK". */
    private static void pointerToANumberOfItsTask() throws ReflectiveOperationException {
        GrowingStacks x = pointing();
        int[] m = memory(x);
        int[] numbers = {-1, 2, 4, 7, 9};
        int[] others = {0, 1, 3, 5, 6, 8, 10, 15, 18, 34, 36, 2047, 2048, -2, Integer.MIN_VALUE, Integer.MAX_VALUE};
        for (int place : numbers) {
            m[3] = place;
            never(x, 0, 0, 0);
        }
        for (int place : others) {
            m[3] = place;
            never(x, 0, 1, 0);
        }
        m[8] = 6;
        never(x, 0, 2, 0);
        m[35] = 2;
        never(x, 0, 3, 0);
        x.stop(0);
        never(x, 0, 1, 0);
    }

    /** The same in a LINKED one: a NUMBER of any FRAME in any of its PIECES. */
    private static void pointerIntoAnotherPiece() throws ReflectiveOperationException {
        GrowingStacks x = new GrowingStacks();
        x.function(0, 8, 0b00000001);
        x.line(0, Programs.CALL, 0, 0, 1);
        x.start(0, 0, 3, 1);
        x.step(0, 2);
        int[] m = memory(x);
        int[] numbers = {3, 9, 19, 25, 35, 41};
        int[] others = {2, 10, 11, 18, 26, 31, 34, 42, 48};
        for (int frame = 0; frame < 3; frame++) {
            for (int place : numbers) {
                m[16 * frame + 2] = place;
                never(x, 0, 0, 0);
            }
            for (int place : others) {
                m[16 * frame + 2] = place;
                never(x, 0, 1, 0);
            }
            m[16 * frame + 2] = -1;
        }
        never(x, 0, 0, 0);
    }

    /** The same of all POINTERS of a FRAME. */
    private static void eachPointerOfAFrame() throws ReflectiveOperationException {
        GrowingStacks x = new GrowingStacks();
        x.function(0, 4, 0b1110);
        x.start(0, 0, 3, 0);
        int[] m = memory(x);
        for (int s = 1; s < 4; s++) {
            m[2 + s] = 1000;
            never(x, 0, s, 0);
        }
        m[4] = 2;
        never(x, 0, 2, 0);
    }

    /** "or a BASE that is not the place of the FRAME that called". */
    private static void baseOfWhoCalled() throws ReflectiveOperationException {
        GrowingStacks x = pointing();
        int[] m = memory(x);
        m[0] = 0;
        DUE.is("the first one has a BASE: never(1)", x.never(1), 1);
        m[32] = 0;
        DUE.is("another first one, too: never(1)", x.never(1), 2);
        m[0] = -1;
        m[32] = -1;
        never(x, 0, 0, 0);
        m[5] = 1;
        DUE.is("a place behind: never(1)", x.never(1), 1);
        m[5] = 5;
        DUE.is("its own place: never(1)", x.never(1), 1);
        m[5] = 32;
        DUE.is("the place of another TASK's: never(1)", x.never(1), 1);
        m[5] = 0;
        never(x, 0, 0, 0);
    }

    /** "2 a FRAME that lies not whole in one PIECE of its TASK". */
    private static void frameInItsPiece() throws ReflectiveOperationException {
        GrowingStacks x = pointing();
        int[] m = memory(x);
        m[5] = 10;
        DUE.is("in its PIECE: never(2)", x.never(2), 0);
        m[5] = 11;
        DUE.is("up to its last WORD: never(2)", x.never(2), 0);
        m[5] = 12;
        DUE.is("a WORD too far: never(2)", x.never(2), 1);
        m[5] = 38;
        DUE.is("in a PIECE of another TASK: never(2)", x.never(2), 1);
        m[5] = 20;
        DUE.is("in no PIECE: never(2)", x.never(2), 1);
        m[5] = 0;
        never(x, 0, 0, 0);
    }

    /** "or has a WORD in common with another one": both of them have. */
    private static void wordInCommon() throws ReflectiveOperationException {
        GrowingStacks x = pointing();
        int[] m = memory(x);
        m[5] = 1;
        DUE.is("one WORD: never(2)", x.never(2), 2);
        m[5] = 5;
        DUE.is("all WORDS: never(2)", x.never(2), 2);
        m[5] = 9;
        DUE.is("the last WORD: never(2)", x.never(2), 2);
        m[5] = 32;
        DUE.is("with that of another TASK: never(2)", x.never(2), 2);
        m[5] = 0;
        never(x, 0, 0, 0);
    }

    /**
     * LANGUAGE.md, rule 7: "No call may ever throw or fail to end, for any arguments in any state": each index is looked
     * at before it is used, so that none throws even where WORDS are that never are.
     */
    private static void anyWords() throws ReflectiveOperationException {
        int[] odd = {Integer.MIN_VALUE, -2, -1, 0, 1, 31, 319, 320, 1023, 1024, 2047, 2048, 3071, Integer.MAX_VALUE};
        Random random = new Random(23);
        for (int run = 0; run < 300; run++) {
            GrowingStacks x = pointing();
            x.stop(0);
            x.stop(1);
            Programs.sum(x, 1);
            Programs.foreign(x, 2, 5, 30, 1);
            for (int t = 0; t < 6; t++) {
                x.start(t, t % 3, 9, random.nextInt(2));
            }
            int[] m = memory(x);
            for (int i = 0; i < 40; i++) {
                x.round(1 + random.nextInt(10));
                for (int n = random.nextInt(6); n > 0; n--) {
                    int word = random.nextBoolean() ? odd[random.nextInt(odd.length)] : random.nextInt(2048);
                    m[random.nextInt(Math.max(1, Math.min(2048, x.look(6))))] = word;
                }
                askAll(x, random);
            }
            DUE.is("set(6, 0)", x.set(6, 0), false);
        }
    }

    private static void askAll(GrowingStacks x, Random random) {
        int t = random.nextInt(6);
        for (int what = 0; what < 8; what++) {
            for (int i = 0; i < x.task(t, 4); i++) {
                x.frame(t, i, what);
                x.slot(t, i, what, 1 + i % 3);
            }
            x.piece(t, what, what % 4);
            x.land(t, 60, what % 5);
        }
        x.never(1);
        x.never(2);
        switch (random.nextInt(6)) {
            case 0: x.compact(); break;
            case 1: x.join(t); break;
            case 2: x.quiet(t); break;
            case 3: x.image(random.nextBoolean()); break;
            case 4: x.step(t, 200); break;
            default: x.start(t, t % 3, 20, t % 2);
        }
    }
}
