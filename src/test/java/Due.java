/** Holds answers against those that are due, and tells how a test ends. */
final class Due {
    private int wrong = 0;
    private int asked = 0;

    void is(String call, long got, long want) {
        asked++;
        if (got != want) {
            wrong++;
            System.out.println(call + " answered " + got + ", due is " + want);
        }
    }

    void is(String call, boolean got, boolean want) {
        asked++;
        if (got != want) {
            wrong++;
            System.out.println(call + " answered " + got + ", due is " + want);
        }
    }

    void yes(String call, boolean got) {
        is(call, got, true);
    }

    void no(String call, boolean got) {
        is(call, got, false);
    }

    /** Line i of THE LOG. */
    void log(GrowingStacks x, int i, int what, int task, int place, int words) {
        row("log(" + i + ", ", new int[] {x.log(i, 0), x.log(i, 1), x.log(i, 2), x.log(i, 3)}, what, task, place, words);
    }

    /** The i-th PIECE of a TASK. */
    void piece(GrowingStacks x, int task, int i, int place, int words, int used, int spare) {
        int[] got = {x.piece(task, i, 0), x.piece(task, i, 1), x.piece(task, i, 2), x.piece(task, i, 3)};
        row("piece(" + task + ", " + i + ", ", got, place, words, used, spare);
    }

    /** All GAPS: the place and the WORDS of each. */
    void gaps(GrowingStacks x, int... placesAndWords) {
        int many = placesAndWords.length / 2;
        is("gap(-1, 0)", x.gap(-1, 0), many);
        for (int i = 0; i < many; i++) {
            int[] got = {x.gap(i, 0), x.gap(i, 1)};
            row("gap(" + i + ", ", got, placesAndWords[2 * i], placesAndWords[2 * i + 1]);
        }
        row("gap(" + many + ", ", new int[] {x.gap(many, 0), x.gap(many, 1)}, -1, -1);
    }

    /** NUMBERS or POINTERS of a FRAME, from SLOT 0 on. */
    void slots(GrowingStacks x, int task, int i, int... words) {
        for (int s = 0; s < words.length; s++) {
            is("slot(" + task + ", " + i + ", " + s + ", 1)", x.slot(task, i, s, 1), words[s]);
        }
    }

    /** Answers that differ in their last argument alone, which goes from 0 on. */
    void row(String call, int[] got, int... want) {
        for (int i = 0; i < want.length; i++) {
            is(call + i + ")", got[i], want[i]);
        }
    }

    void end() {
        System.out.println(asked + " answers, " + wrong + " not as due");
        if (wrong > 0) {
            System.exit(1);
        }
    }
}
