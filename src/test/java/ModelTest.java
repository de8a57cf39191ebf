/** Long runs of calls on the class and on the model side by side; the same calls every time. */
public final class ModelTest {
    private static final int RUNS = 400;
    private static final int CHANGES = 16;
    private static long state = 20261115L;

    public static void main(String[] args) {
        for (int run = 0; run < RUNS; run++) {
            oneRun(run);
        }
        Check.end();
    }

    /** A number from least to most, from a fixed row of numbers. */
    private static int pick(int least, int most) {
        state = state * 6364136223846793005L + 1442695040888963407L;
        return least + (int) ((state >>> 33) % (most - least + 1));
    }

    private static void oneRun(int run) {
        int width = pick(-3, 70);
        if (pick(0, 2) > 0) {
            width = pick(5, 25);
        }
        int extra = pick(-20, 120);
        int kind = pick(0, 3);
        ParagraphBreaker x = new ParagraphBreaker(width, extra);
        Model m = new Model(width, extra);
        for (int words = pick(0, 9); words > 0; words--) {
            append("run " + run + ": ", x, m, kind);
        }
        for (int step = 0; step < CHANGES; step++) {
            String at = "run " + run + " (" + width + ", " + extra + "), step " + step + ": ";
            oneChange(at, x, m, kind);
            // An object is promised for 512 calls: each step asks for a part of the answers.
            askOne(at, x, m);
        }
        askAll("run " + run + " at its end: ", x, m);
    }

    /** Narrow choices of widths and penalties make ties common; wide ones reach the edges. */
    private static int wordWidth(int kind) {
        switch (kind) {
            case 0: return pick(1, 12);
            case 1: return pick(0, 13);
            case 2: return pick(2, 4);
            default: return 1 + 2 * pick(0, 2);
        }
    }

    private static int penalty(int kind) {
        switch (kind) {
            case 0: return pick(-40, 40);
            case 1: return pick(-42, 42);
            case 2: return 0;
            default: return pick(-2, 2) * 4;
        }
    }

    private static void append(String at, ParagraphBreaker x, Model m, int kind) {
        int w = wordWidth(kind);
        int p = penalty(kind);
        Check.due(at + "word(" + w + ", " + p + ")", m.word(w, p), x.word(w, p));
    }

    private static void oneChange(String at, ParagraphBreaker x, Model m, int kind) {
        switch (pick(0, 5)) {
            case 0:
                Check.due(at + "back()", m.back(), x.back());
                break;
            case 1:
                int i = pick(-1, 10);
                int w = wordWidth(kind);
                int p = penalty(kind);
                Check.due(at + "change(" + i + ", " + w + ", " + p + ")", m.change(i, w, p), x.change(i, w, p));
                break;
            case 2:
                int line = pick(3, 30);
                Check.due(at + "setWidth(" + line + ")", m.setWidth(line), x.setWidth(line));
                break;
            default:
                append(at, x, m, kind);
        }
    }

    private static void askOne(String at, ParagraphBreaker x, Model m) {
        int a = pick(-1, 11);
        Check.due(at + "words()", m.words(), x.words());
        Check.due(at + "cost()", m.cost(), x.cost());
        Check.due(at + "lines()", m.lines(), x.lines());
        Check.due(at + "choices()", m.choices(), x.choices());
        Check.due(at + "lineOf(" + a + ")", m.lineOf(a), x.lineOf(a));
        Check.due(at + "endOf(" + a + ")", m.endOf(a), x.endOf(a));
        Check.due(at + "lengthOf(" + a + ")", m.lengthOf(a), x.lengthOf(a));
        Check.due(at + "costWith(" + a + ")", m.costWith(a), x.costWith(a));
        Check.due(at + "costBreaking(" + a + ")", m.costBreaking(a), x.costBreaking(a));
        Check.due(at + "costKeeping(" + a + ")", m.costKeeping(a), x.costKeeping(a));
    }

    private static void askAll(String at, ParagraphBreaker x, Model m) {
        for (int a = -1; a <= 11; a++) {
            Check.due(at + "lineOf(" + a + ")", m.lineOf(a), x.lineOf(a));
            Check.due(at + "endOf(" + a + ")", m.endOf(a), x.endOf(a));
            Check.due(at + "lengthOf(" + a + ")", m.lengthOf(a), x.lengthOf(a));
            Check.due(at + "costWith(" + a + ")", m.costWith(a), x.costWith(a));
            Check.due(at + "costBreaking(" + a + ")", m.costBreaking(a), x.costBreaking(a));
            Check.due(at + "costKeeping(" + a + ")", m.costKeeping(a), x.costKeeping(a));
        }
    }
}
