/** For each promise the ordinary inputs, the edges and the wrong inputs, with answers worked out by hand. */
public final class PromisesTest {
    private static final int NONE = ParagraphBreaker.NONE;
    private static final int FULL = ParagraphBreaker.FULL;
    private static final int BAD = ParagraphBreaker.BAD;
    private static final int LEAST = Integer.MIN_VALUE;
    private static final int MOST = Integer.MAX_VALUE;

    public static void main(String[] args) {
        newObject();
        clampedWidth();
        clampedExtra();
        word();
        back();
        change();
        setWidth();
        words();
        costOfOneLine();
        costOfBreaks();
        costOfExtra();
        fewestLines();
        dictionaryOrder();
        noBreaking();
        lineOfEndOfLengthOf();
        costWith();
        costBreakingAndKeeping();
        choices();
        orderAndLimits();
        wildArguments();
        Check.end();
    }

    // Promise 1
    private static void newObject() {
        ParagraphBreaker x = new ParagraphBreaker(20, 10);
        Check.due("1 words", 0, x.words());
        Check.due("1 cost", 0, x.cost());
        Check.due("1 lines", 0, x.lines());
        Check.due("1 choices", 1, x.choices());
    }

    /** Two words of width 1 on lines of their own cost the square of the line's width less 1. */
    private static void clampedWidth() {
        int[][] cases = {{4, 16}, {5, 16}, {6, 25}, {0, 16}, {-7, 16}, {LEAST, 16},
            {59, 58 * 58}, {60, 59 * 59}, {61, 59 * 59}, {MOST, 59 * 59}};
        for (int[] c : cases) {
            Check.due("1 width " + c[0], c[1], Paragraph.made(c[0], 0, 1, 0, 1, 0).costBreaking(0));
        }
    }

    /** Three words of width 5 on lines of width 5 must stand alone, with two breaks at a penalty of 1. */
    private static void clampedExtra() {
        int[][] cases = {{-1, 0}, {0, 0}, {1, 1}, {LEAST, 0}, {99, 99}, {100, 100}, {101, 100}, {MOST, 100}};
        for (int[] c : cases) {
            Check.due("1 extra " + c[0], 2 + c[1], Paragraph.made(5, c[0], 5, 1, 5, 1, 5, 1).cost());
        }
    }

    // Promise 2
    private static void word() {
        ParagraphBreaker x = new ParagraphBreaker(60, 0);
        int[][] wrong = {{0, 0}, {-1, 0}, {13, 0}, {LEAST, 0}, {MOST, 0}, {1, -41}, {1, 41}, {12, LEAST}, {12, MOST}};
        for (int[] w : wrong) {
            Check.due("2 word(" + w[0] + ", " + w[1] + ")", BAD, x.word(w[0], w[1]));
            Check.due("2 words after a wrong word", 0, x.words());
        }
        Check.due("2 word(1, -40)", 0, x.word(1, -40));
        Check.due("2 word(12, 40)", 1, x.word(12, 40));
        Check.due("2 length", 15, x.lengthOf(0));
        Check.due("2 penalty -40", 59 * 59 - 40, x.costBreaking(0));
        Check.due("2 word(3, 0)", 2, x.word(3, 0));
        Check.due("2 penalty 40", 45 * 45 + 40, x.costBreaking(1));
        for (int i = 3; i < 10; i++) {
            Check.due("2 word " + i, i, x.word(1, 0));
        }
        Check.due("2 eleventh", FULL, x.word(1, 0));
        Check.due("2 words when full", 10, x.words());
        Check.due("2 length when full", 41, x.lengthOf(0));
        Check.due("2 back", 9, x.back());
        Check.due("2 tenth again", 9, x.word(5, 0));
        Check.due("2 length with another tenth", 45, x.lengthOf(0));
    }

    // Promise 3
    private static void back() {
        ParagraphBreaker x = new ParagraphBreaker(20, 0);
        Check.due("3 back on a new object", BAD, x.back());
        Check.due("3 words after it", 0, x.words());
        x.word(3, 0);
        x.word(4, 0);
        x.word(5, 0);
        Check.due("3 length of three", 16, x.lengthOf(0));
        Check.due("3 back", 2, x.back());
        Check.due("3 length of two", 9, x.lengthOf(0));
        Check.due("3 lineOf a word taken away", BAD, x.lineOf(2));
        Check.due("3 back", 1, x.back());
        Check.due("3 length of one", 3, x.lengthOf(0));
        Check.due("3 back", 0, x.back());
        Check.due("3 back on none", BAD, x.back());
        Check.due("3 back on none again", BAD, x.back());
        Check.due("3 word after it", 0, x.word(6, 0));
        Check.due("3 length after it", 6, x.lengthOf(0));
    }

    // Promise 4
    private static void change() {
        ParagraphBreaker x = Paragraph.made(20, 0, 3, 1, 4, 2);
        int[][] wrong = {{-1, 5, 0}, {2, 5, 0}, {10, 5, 0}, {LEAST, 5, 0}, {MOST, 5, 0}, {0, 0, 7}, {0, 13, 7},
            {0, 6, -41}, {0, 6, 41}, {1, LEAST, 0}, {1, MOST, 0}, {1, 6, LEAST}, {1, 6, MOST}};
        for (int[] w : wrong) {
            Check.due("4 change(" + w[0] + ", " + w[1] + ", " + w[2] + ")", false, x.change(w[0], w[1], w[2]));
            Check.due("4 length after a wrong change", 9, x.lengthOf(0));
            Check.due("4 cost after a wrong change", 17 * 17 + 1, x.costBreaking(0));
        }
        Check.due("4 words", 2, x.words());
        Check.due("4 change(0, 12, -40)", true, x.change(0, 12, -40));
        Check.due("4 length", 18, x.lengthOf(0));
        Check.due("4 penalty", 8 * 8 - 40, x.costBreaking(0));
        Check.due("4 change(1, 1, 40)", true, x.change(1, 1, 40));
        Check.due("4 change to the same", true, x.change(1, 1, 40));
        Check.due("4 length", 15, x.lengthOf(0));
        Check.due("4 the last word's penalty does not count", 0, x.cost());
        x.back();
        Check.due("4 change of a word taken away", false, x.change(1, 5, 0));
        Check.due("4 change on none", false, new ParagraphBreaker(20, 0).change(0, 5, 0));
    }

    // Promise 5
    private static void setWidth() {
        ParagraphBreaker x = Paragraph.made(20, 0, 1, 0, 1, 0);
        for (int wrong : new int[] {4, 61, 0, -5, LEAST, MOST}) {
            Check.due("5 setWidth(" + wrong + ")", false, x.setWidth(wrong));
            Check.due("5 cost after a wrong width", 19 * 19, x.costBreaking(0));
        }
        Check.due("5 setWidth(5)", true, x.setWidth(5));
        Check.due("5 cost at 5", 16, x.costBreaking(0));
        Check.due("5 setWidth(60)", true, x.setWidth(60));
        Check.due("5 cost at 60", 59 * 59, x.costBreaking(0));
        Check.due("5 setWidth to the same", true, x.setWidth(60));
        Check.due("5 words", 2, x.words());
    }

    // Promise 6
    private static void words() {
        ParagraphBreaker x = new ParagraphBreaker(5, 0);
        for (int n = 0; n < 10; n++) {
            Check.due("6 words", n, x.words());
            x.word(12, 0);
        }
        Check.due("6 words at ten, without a breaking", 10, x.words());
        x.word(1, 0);
        Check.due("6 words after FULL", 10, x.words());
        x.back();
        Check.due("6 words after back", 9, x.words());
    }

    // Promise 7, and the terms FITS and BADNESS
    private static void costOfOneLine() {
        Check.due("7 last line with room", 0, Paragraph.made(10, 0, 3, 40).cost());
        Check.due("7 last line just full", 0, Paragraph.made(10, 0, 4, 40, 4, 40).cost());
        Check.due("7 last line with its gap made narrower", 3, Paragraph.made(10, 0, 5, 40, 4, 40).costKeeping(0));
        Check.due("7 last line with two gaps made narrower", 12, Paragraph.made(10, 0, 3, 0, 3, 0, 2, 0).costWith(1));
        Check.due("7 last line one too long", NONE, Paragraph.made(10, 0, 3, 0, 3, 0, 3, 0).costWith(1));
        Check.due("7 other line with room", 36, Paragraph.made(10, 0, 4, 0, 9, 0).cost());
        Check.due("7 other line just full", 0, Paragraph.made(10, 0, 10, 0, 9, 0).cost());
        Check.due("7 other line with its gap made narrower", 3, Paragraph.made(10, 0, 5, 0, 4, 0, 9, 0).cost());
        Check.due("7 a word as wide as the line", 0, Paragraph.made(11, 0, 11, 0).cost());
        Check.due("7 a word wider than the line", NONE, Paragraph.made(11, 0, 12, 0).cost());
    }

    private static void costOfBreaks() {
        Check.due("7 penalty of a break", 7, Paragraph.made(10, 0, 10, 7, 9, 9).cost());
        Check.due("7 penalty below 0", -7, Paragraph.made(10, 0, 10, -7, 9, 9).cost());
        Check.due("7 least cost there is", -360, Paragraph.alike(12, 100, 10, 12, -40).cost());
        Check.due("7 a penalty below 0 wins a break", -4, Paragraph.made(10, 0, 4, -40, 4, 0).cost());
        Paragraph.ends("7 a penalty below 0 wins a break", Paragraph.made(10, 0, 4, -40, 4, 0), 0, 1);
    }

    private static void costOfExtra() {
        Check.due("7 extra, the last line does not count", 1, Paragraph.made(5, 50, 5, 1, 5, 1).cost());
        Check.due("7 extra for one pair", 52, Paragraph.made(5, 50, 5, 1, 5, 1, 5, 1).cost());
        Check.due("7 extra for two pairs", 103, Paragraph.made(5, 50, 5, 1, 5, 1, 5, 1, 5, 1).cost());
        Check.due("7 no extra over a penalty of 0", 2, Paragraph.made(5, 50, 5, 1, 5, 0, 5, 1, 5, 1).cost());
        Check.due("7 no extra over a penalty below 0", 1, Paragraph.made(5, 50, 5, 1, 5, -1, 5, 1, 5, 1).cost());
        Check.due("7 a word within a line does not count", 2 + 3 + 50,
            Paragraph.made(10, 50, 10, 1, 5, 0, 4, 1, 10, 0).cost());
        Check.due("7 no extra for a penalty within a line", 1 + 0,
            Paragraph.made(10, 50, 10, 1, 4, 1, 4, 0, 10, 0).cost());
        // 10 | 4 4 | 10 costs 102, and a break between the fours costs 72 but evades the extra.
        Check.due("7 extra is worth evading", 36 + 36 + 2, Paragraph.made(10, 100, 10, 1, 4, 0, 4, 1, 10, 0).cost());
        Paragraph.ends("7 extra is worth evading", Paragraph.made(10, 100, 10, 1, 4, 0, 4, 1, 10, 0), 0, 1, 2, 3);
    }

    /** One line costs 0; two cost 16 - 16. */
    private static void fewestLines() {
        ParagraphBreaker x = Paragraph.made(10, 0, 6, -16, 2, 0);
        Check.due("8 cost of a tie", 0, x.cost());
        Check.due("8 choices of a tie", 2, x.choices());
        Paragraph.ends("8 fewest lines", x, 1);
        Check.due("8 one less and the break wins", true, x.change(0, 6, -17));
        Paragraph.ends("8 least cost before fewest lines", x, 0, 1);
        Check.due("8 one line for one word", 1, Paragraph.made(10, 0, 6, 0).lines());
        Check.due("8 a line for each word", 10,
            Paragraph.alike(12, 0, 10, 12, 0).lines());
    }

    /** Breaking after word 0 costs 36, and after word 1 it costs 0 + 36. */
    private static void dictionaryOrder() {
        ParagraphBreaker x = Paragraph.made(10, 0, 4, 0, 4, 36, 4, 0);
        Check.due("10 choices of a tie", 2, x.choices());
        Paragraph.ends("10 dictionary order", x, 0, 2);
        Check.due("10 lineOf(1)", 1, x.lineOf(1));
        Check.due("10 length of line 0", 4, x.lengthOf(0));
        Check.due("10 length of line 1", 10, x.lengthOf(1));
        // The same tie after a first line that is full, so that the second number decides.
        ParagraphBreaker y = Paragraph.made(10, 0, 10, 0, 4, 0, 4, 36, 4, 0);
        Check.due("10 choices of a later tie", 2, y.choices());
        Paragraph.ends("10 dictionary order of a later tie", y, 0, 1, 3);
        // Two ties, each with its own choice.
        ParagraphBreaker z = Paragraph.made(10, 0, 4, 0, 4, 0, 4, 0, 10, 0, 4, 0, 4, 36, 4, 0);
        Check.due("10 choices of two ties", 4, z.choices());
        Paragraph.ends("10 dictionary order of two ties", z, 0, 2, 3, 4, 6);
        // The ends 0, 3, 4 cost 144 + 16 + 12, and 1, 2, 4 cost 81 + 1 + 100 - 10: the first number decides,
        // though the second one speaks for the other breaking.
        ParagraphBreaker nested = Paragraph.made(20, 100, 8, 0, 1, 1, 10, -10, 1, 12, 12, 0);
        Check.due("10 cost of a nested tie", 172, nested.cost());
        Check.due("10 choices of a nested tie", 2, nested.choices());
        Paragraph.ends("10 dictionary order of a nested tie", nested, 0, 3, 4);
    }

    private static void noBreaking() {
        ParagraphBreaker x = Paragraph.made(11, 10, 3, 0, 12, 0, 3, 0);
        Check.due("7 cost without a breaking", NONE, x.cost());
        Check.due("8 lines without a breaking", 0, x.lines());
        Check.due("15 choices without a breaking", 0, x.choices());
        for (int i = -1; i < 4; i++) {
            Check.due("9 lineOf without a breaking", BAD, x.lineOf(i));
            Check.due("10 endOf without a breaking", BAD, x.endOf(i));
            Check.due("11 lengthOf without a breaking", BAD, x.lengthOf(i));
            Check.due("12 costWith without a breaking", NONE, x.costWith(i));
            Check.due("13 costBreaking without a breaking", NONE, x.costBreaking(i));
            Check.due("14 costKeeping without a breaking", NONE, x.costKeeping(i));
        }
        x.setWidth(12);
        Check.due("7 cost when the line is wider again", 81, x.cost());
        Paragraph.ends("8 lines when the line is wider again", x, 0, 1, 2);
    }

    // Promises 9, 10 and 11
    private static void lineOfEndOfLengthOf() {
        ParagraphBreaker x = Paragraph.made(10, 0, 4, 0, 4, 0, 9, 0, 2, 0, 3, 0, 2, 0, 1, 0);
        // 4 4 | 9 | 2 3 2 | 1, the third line with narrower gaps
        Paragraph.ends("10", x, 1, 2, 5, 6);
        int[] line = {0, 0, 1, 2, 2, 2, 3};
        for (int i = 0; i < line.length; i++) {
            Check.due("9 lineOf(" + i + ")", line[i], x.lineOf(i));
        }
        int[] length = {10, 9, 11, 1};
        for (int k = 0; k < length.length; k++) {
            Check.due("11 lengthOf(" + k + ")", length[k], x.lengthOf(k));
        }
        for (int wrong : new int[] {-1, 7, 10, LEAST, MOST}) {
            Check.due("9 lineOf(" + wrong + ")", BAD, x.lineOf(wrong));
            Check.due("10 endOf(" + wrong + ")", BAD, x.endOf(wrong));
            Check.due("11 lengthOf(" + wrong + ")", BAD, x.lengthOf(wrong));
        }
        Check.due("11 lengthOf after the last line", BAD, x.lengthOf(x.lines()));
    }

    // Promise 12
    private static void costWith() {
        ParagraphBreaker x = Paragraph.made(10, 0, 4, 1, 4, 2, 4, 3);
        Check.due("12 costWith(1)", NONE, x.costWith(1));
        Check.due("12 costWith(2)", 2, x.costWith(2));
        Check.due("12 costWith(3)", 36 + 1 + 36 + 2, x.costWith(3));
        for (int wrong : new int[] {0, -1, 4, 10, LEAST, MOST}) {
            Check.due("12 costWith(" + wrong + ")", NONE, x.costWith(wrong));
        }
        ParagraphBreaker none = new ParagraphBreaker(10, 0);
        Check.due("12 costWith(0) without words", 0, none.costWith(0));
        Check.due("12 costWith(1) without words", NONE, none.costWith(1));
        Check.due("12 costWith(-1) without words", NONE, none.costWith(-1));
    }

    // Promises 13 and 14
    private static void costBreakingAndKeeping() {
        ParagraphBreaker x = Paragraph.made(10, 0, 4, 1, 4, 2, 4, 3);
        Check.due("13 costBreaking(0)", 37, x.costBreaking(0));
        Check.due("13 costBreaking(1)", 2, x.costBreaking(1));
        Check.due("14 costKeeping(0)", 2, x.costKeeping(0));
        Check.due("14 costKeeping(1)", 37, x.costKeeping(1));
        for (int wrong : new int[] {2, 3, -1, 10, LEAST, MOST}) {
            Check.due("13 costBreaking(" + wrong + ")", NONE, x.costBreaking(wrong));
            Check.due("14 costKeeping(" + wrong + ")", NONE, x.costKeeping(wrong));
        }
        Check.due("14 words that cannot stand together", NONE, Paragraph.made(10, 0, 9, 0, 9, 0).costKeeping(0));
        Check.due("13 words that cannot stand together", 1, Paragraph.made(10, 0, 9, 0, 9, 0).costBreaking(0));
        Check.due("13 the only word", NONE, Paragraph.made(10, 0, 9, 0).costBreaking(0));
        Check.due("14 the only word", NONE, Paragraph.made(10, 0, 9, 0).costKeeping(0));
        Check.due("13 without words", NONE, new ParagraphBreaker(10, 0).costBreaking(0));
        Check.due("14 without words", NONE, new ParagraphBreaker(10, 0).costKeeping(0));
        Check.due("13 without words, before the first", NONE, new ParagraphBreaker(10, 0).costBreaking(-1));
        Check.due("14 without words, before the first", NONE, new ParagraphBreaker(10, 0).costKeeping(-1));
    }

    // Promise 15; on a line of 5 a word of 1 alone costs 16, two such words 1, and three 12 also as the last line
    private static void choices() {
        Check.due("15 one word", 1, Paragraph.made(5, 0, 1, 0).choices());
        Check.due("15 a tie of two", 2, Paragraph.made(5, 0, 1, -16, 1, 0).choices());
        Check.due("15 no tie", 1, Paragraph.made(5, 0, 1, -15, 1, 0).choices());
        ParagraphBreaker x = Paragraph.made(5, 0, 1, -4, 1, 11, 1, 0);
        Check.due("15 ties of breakings with as many and with other numbers of lines", 3, x.choices());
        Check.due("15 their cost", 12, x.cost());
        Paragraph.ends("15 the best of them", x, 2);
    }

    // Promise 16
    private static void orderAndLimits() {
        ParagraphBreaker x = new ParagraphBreaker(60, 0);
        for (int i = 0; i < 10; i++) {
            x.word(2, 0);
        }
        Check.due("16 BAD before FULL, width 0", BAD, x.word(0, 0));
        Check.due("16 BAD before FULL, width 13", BAD, x.word(13, 0));
        Check.due("16 BAD before FULL, penalty -41", BAD, x.word(1, -41));
        Check.due("16 BAD before FULL, penalty 41", BAD, x.word(1, 41));
        Check.due("16 FULL", FULL, x.word(12, 40));
        Check.due("16 words", 10, x.words());
        Check.due("16 length", 38, x.lengthOf(0));
        Check.due("16 cost", 0, x.cost());
        Check.due("16 costWith(11)", NONE, x.costWith(11));
        Check.due("16 costWith(10)", 9 * 58 * 58, x.costWith(10));
        Check.due("16 costWith(0)", NONE, x.costWith(0));
        Check.due("16 costWith(-1)", NONE, x.costWith(-1));
        ParagraphBreaker none = new ParagraphBreaker(60, 0);
        for (int i = -1; i < 2; i++) {
            Check.due("16 lineOf without words", BAD, none.lineOf(i));
            Check.due("16 endOf without words", BAD, none.endOf(i));
            Check.due("16 lengthOf without words", BAD, none.lengthOf(i));
        }
    }

    /** No call may throw (LANGUAGE.md, rule 7); a throw ends this test with a failure. */
    private static void wildArguments() {
        int[] wild = {LEAST, LEAST + 1, -33, -32, -31, -2, -1, 0, 1, 9, 10, 11, 31, 32, 33, MOST - 1, MOST};
        for (int n = 0; n <= 10; n++) {
            // An object is promised for 512 calls, so each number of words has its own.
            ParagraphBreaker x = Paragraph.alike(30, 10, n, 5, 3);
            for (int a : wild) {
                boolean has = a >= 0 && a < n;
                Check.due("wild lineOf(" + a + ")", has, x.lineOf(a) != BAD);
                Check.due("wild endOf(" + a + ")", a >= 0 && a < x.lines(), x.endOf(a) != BAD);
                Check.due("wild lengthOf(" + a + ")", a >= 0 && a < x.lines(), x.lengthOf(a) != BAD);
                Check.due("wild costBreaking(" + a + ")", has && a < n - 1, x.costBreaking(a) != NONE);
                Check.due("wild costKeeping(" + a + ")", has && a < n - 1, x.costKeeping(a) != NONE);
                if (a < 0 || a > n) {
                    Check.due("wild costWith(" + a + ")", NONE, x.costWith(a));
                }
            }
        }
    }
}
