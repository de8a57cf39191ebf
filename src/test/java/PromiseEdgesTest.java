/** A test for each sentence of promises 1 to 16 that names a boundary case. */
public final class PromiseEdgesTest {
    private static final int NONE = ParagraphBreaker.NONE;
    private static final int FULL = ParagraphBreaker.FULL;
    private static final int BAD = ParagraphBreaker.BAD;
    private static final int LEAST = Integer.MIN_VALUE;
    private static final int MOST = Integer.MAX_VALUE;

    private static final int[] NOT_WIDTHS = {0, 13, -1, LEAST, MOST, 256 + 1, 65536 + 12, -12};
    private static final int[] NOT_PENALTIES = {-41, 41, LEAST, MOST, 256, -256 - 40, 65536};
    private static final int[] NOT_LINE_WIDTHS = {4, 61, 0, -5, -60, LEAST, MOST, 256 + 5, 65536 + 60};
    /** Below 0, and so far above that a shift or a sum would come round to a word that there is. */
    private static final int[] NEVER = {-1, -2, -10, -31, -32, -33, LEAST, LEAST + 1, 10, 11, 31, 32, 33, 256, 65536,
        MOST - 1, MOST};

    public static void main(String[] args) {
        makingAndWords();
        changing();
        best();
        lineAnswers();
        leastCosts();
        orderAndLimits();
        Check.end();
    }

    private static void makingAndWords() {
        Check.sentence("1", "No words", PromiseEdgesTest::newObject);
        Check.sentence("1", "width: of the line, clamped to 5 .. 60", PromiseEdgesTest::clampedWidth);
        Check.sentence("1", "extra: clamped to 0 .. 100", PromiseEdgesTest::clampedExtra);
        Check.sentence("2", "Appends a word and answers its number", PromiseEdgesTest::wordNumbers);
        Check.sentence("2", "BAD when width is not 1 .. 12", PromiseEdgesTest::wordWidth);
        Check.sentence("2", "BAD when .. penalty is not -40 .. 40", PromiseEdgesTest::wordPenalty);
        Check.sentence("2", "FULL when there are ten", PromiseEdgesTest::wordFull);
        Check.sentence("3", "Takes the last word away and answers how many are left", PromiseEdgesTest::backToNone);
        Check.sentence("3", "BAD when there is none", PromiseEdgesTest::backOnNone);
    }

    private static void changing() {
        Check.sentence("4", "Gives word i another width and penalty and answers true", PromiseEdgesTest::changeEdges);
        Check.sentence("4", "false, changing nothing, when there is no word i", PromiseEdgesTest::changeNoWord);
        Check.sentence("4", "false, changing nothing, when .. a number is not in its range",
            PromiseEdgesTest::changeOutOfRange);
        Check.sentence("5", "Sets the width of the line and answers true", PromiseEdgesTest::setWidthEdges);
        Check.sentence("5", "false, changing nothing, when it is not 5 .. 60", PromiseEdgesTest::setWidthRefused);
        Check.sentence("6", "The number of words", PromiseEdgesTest::numberOfWords);
    }

    private static void best() {
        Check.sentence("7", "0 when there are no words", PromiseEdgesTest::costOfNoWords);
        Check.sentence("7", "NONE when there is no breaking", PromiseEdgesTest::costOfNoBreaking);
        Check.sentence("7", "The cost of the best breaking", PromiseEdgesTest::greatCosts);
        Check.sentence("8", "0 when there are no words", PromiseEdgesTest::linesOfNoWords);
        Check.sentence("8", "0 when there are .. no breaking", PromiseEdgesTest::linesOfNoBreaking);
        Check.sentence("15", "1 when there are no words", PromiseEdgesTest::choicesOfNoWords);
        Check.sentence("15", "0 when there is no breaking", PromiseEdgesTest::choicesOfNoBreaking);
        Check.sentence("15", "The number of breakings whose cost is the least", PromiseEdgesTest::choicesNearATie);
    }

    private static void lineAnswers() {
        Check.sentence("9", "The line (0 the first) of word i", PromiseEdgesTest::lineOfFirstAndLast);
        Check.sentence("9", "BAD when there is no word i", PromiseEdgesTest::lineOfNoWord);
        Check.sentence("9", "BAD when there is .. no breaking", PromiseEdgesTest::lineOfNoBreaking);
        Check.sentence("10", "The number of the last word of line k (0 the first)",
            PromiseEdgesTest::endOfFirstAndLast);
        Check.sentence("10", "BAD when there is no such line", PromiseEdgesTest::endOfNoLine);
        Check.sentence("11", "The length of line k", PromiseEdgesTest::lengthOfFirstAndLast);
        Check.sentence("11", "BAD when there is no such line", PromiseEdgesTest::lengthOfNoLine);
    }

    private static void leastCosts() {
        Check.sentence("12", "with exactly n lines", PromiseEdgesTest::exactlyLines);
        Check.sentence("12", "NONE when there is none", PromiseEdgesTest::costWithNone);
        Check.sentence("12", "0 for n = 0 when there are no words", PromiseEdgesTest::costWithNoWords);
        Check.sentence("13", "breaks after word i", PromiseEdgesTest::costBreakingFirstAndLast);
        Check.sentence("13", "NONE when there is none", PromiseEdgesTest::costBreakingNone);
        Check.sentence("13", "NONE when .. i is the last word", PromiseEdgesTest::costBreakingLastWord);
        Check.sentence("13", "NONE when .. there is no word i", PromiseEdgesTest::costBreakingNoWord);
        Check.sentence("14", "does not break after word i", PromiseEdgesTest::costKeepingFirstAndLast);
        Check.sentence("14", "NONE as in costBreaking: there is none", PromiseEdgesTest::costKeepingNone);
        Check.sentence("14", "NONE as in costBreaking: i is the last word", PromiseEdgesTest::costKeepingLastWord);
        Check.sentence("14", "NONE as in costBreaking: there is no word i", PromiseEdgesTest::costKeepingNoWord);
    }

    private static void orderAndLimits() {
        Check.sentence("16", "In word BAD is tested before FULL", PromiseEdgesTest::badBeforeFull);
        Check.sentence("16", "neither changes anything", PromiseEdgesTest::refusedWords);
        Check.sentence("16", "lineOf answers BAD when there are no words", PromiseEdgesTest::lineOfNoWords);
        Check.sentence("16", "endOf answers BAD when there are no words", PromiseEdgesTest::endOfNoWords);
        Check.sentence("16", "lengthOf answers BAD when there are no words", PromiseEdgesTest::lengthOfNoWords);
        Check.sentence("16", "costWith answers NONE for n below 0", PromiseEdgesTest::costWithBelow);
        Check.sentence("16", "costWith answers NONE for n above the number of words", PromiseEdgesTest::costWithAbove);
        Check.sentence("16", "costWith answers NONE for n = 0 when there are words", PromiseEdgesTest::costWithZero);
    }

    /** An object that never had words, and one that has none left: its old words must not show. */
    private static ParagraphBreaker[] withoutWords() {
        ParagraphBreaker emptied = Paragraph.made(10, 50, 12, 40, 3, -40);
        emptied.back();
        emptied.back();
        return new ParagraphBreaker[] {new ParagraphBreaker(10, 50), emptied};
    }

    /** Paragraphs with a word that is wider than the line: the first, the last, the only one, one of ten. */
    private static ParagraphBreaker[] withoutBreaking() {
        ParagraphBreaker ten = Paragraph.alike(11, 50, 10, 2, -40);
        ten.change(5, 12, -40);
        ParagraphBreaker narrowed = Paragraph.made(12, 50, 12, -40, 3, 0);
        narrowed.setWidth(11);
        return new ParagraphBreaker[] {Paragraph.made(11, 50, 12, -40, 3, 0), Paragraph.made(11, 50, 3, -40, 12, 0),
            Paragraph.made(5, 50, 6, 0), ten, narrowed};
    }

    /** Ten words, one line each, all alike. */
    private static ParagraphBreaker tenLines() {
        return Paragraph.alike(12, 0, 10, 12, 1);
    }

    // Promise 1

    private static void newObject() {
        ParagraphBreaker other = Paragraph.alike(20, 0, 10, 3, 0);
        ParagraphBreaker x = new ParagraphBreaker(20, 0);
        Check.due("words", 0, x.words());
        Check.due("back", BAD, x.back());
        Check.due("the first word's number", 0, x.word(1, 0));
        Check.due("words of the other object", 10, other.words());
    }

    /** A break between two words of width 1 costs the square of the line's width less 1. */
    private static void clampedWidth() {
        int[][] cases = {{LEAST, 5}, {-60, 5}, {-1, 5}, {0, 5}, {4, 5}, {5, 5}, {6, 6}, {59, 59}, {60, 60}, {61, 60},
            {256, 60}, {65536, 60}, {MOST, 60}};
        for (int[] c : cases) {
            int cost = Paragraph.made(c[0], 0, 1, 0, 1, 0).costBreaking(0);
            Check.due("cost at width " + c[0], (c[1] - 1) * (c[1] - 1), cost);
        }
    }

    /** Three words that fill a line each have two breaks at a penalty of 1. */
    private static void clampedExtra() {
        int[][] cases = {{LEAST, 0}, {-100, 0}, {-1, 0}, {0, 0}, {1, 1}, {99, 99}, {100, 100}, {101, 100}, {256, 100},
            {65536, 100}, {MOST, 100}};
        for (int[] c : cases) {
            Check.due("cost at extra " + c[0], 2 + c[1], Paragraph.made(5, c[0], 5, 1, 5, 1, 5, 1).cost());
        }
    }

    // Promise 2

    private static void wordNumbers() {
        ParagraphBreaker x = new ParagraphBreaker(60, 0);
        for (int i = 0; i < 10; i++) {
            Check.due("word", i, x.word(1, 0));
            Check.due("words", i + 1, x.words());
        }
    }

    private static void wordWidth() {
        for (int width : NOT_WIDTHS) {
            ParagraphBreaker x = Paragraph.made(20, 10, 3, 1, 4, 2);
            Check.due("word(" + width + ", 0)", BAD, x.word(width, 0));
            Check.due("words", 2, x.words());
        }
        Check.due("word(1, 0)", 0, new ParagraphBreaker(20, 0).word(1, 0));
        Check.due("word(12, 0)", 0, new ParagraphBreaker(20, 0).word(12, 0));
        Check.due("word wider than the line", 0, new ParagraphBreaker(5, 0).word(12, 0));
    }

    private static void wordPenalty() {
        for (int penalty : NOT_PENALTIES) {
            ParagraphBreaker x = Paragraph.made(20, 10, 3, 1, 4, 2);
            Check.due("word(1, " + penalty + ")", BAD, x.word(1, penalty));
            Check.due("words", 2, x.words());
        }
        Check.due("word(1, -40)", 0, new ParagraphBreaker(20, 0).word(1, -40));
        Check.due("word(1, 40)", 0, new ParagraphBreaker(20, 0).word(1, 40));
    }

    private static void wordFull() {
        ParagraphBreaker x = Paragraph.alike(60, 0, 9, 1, 0);
        Check.due("the tenth", 9, x.word(1, 0));
        Check.due("the eleventh", FULL, x.word(1, 0));
        Check.due("the eleventh again", FULL, x.word(12, -40));
        Check.due("back", 9, x.back());
        Check.due("the tenth again", 9, x.word(1, 0));
        Check.due("and full again", FULL, x.word(1, 0));
    }

    // Promise 3

    private static void backToNone() {
        ParagraphBreaker x = new ParagraphBreaker(60, 0);
        for (int i = 0; i < 10; i++) {
            x.word(i + 1, 0);
        }
        for (int left = 9; left >= 1; left--) {
            Check.due("back", left, x.back());
            Check.due("length", left * (left + 1) / 2 + 2 * (left - 1), x.lengthOf(0));
        }
        Check.due("back from one word", 0, x.back());
        Check.due("words", 0, x.words());
    }

    private static void backOnNone() {
        for (ParagraphBreaker x : withoutWords()) {
            String before = Paragraph.answers(x);
            Check.due("back", BAD, x.back());
            Check.due("back again", BAD, x.back());
            Check.due("answers after it", before, Paragraph.answers(x));
            Check.due("word after it", 0, x.word(7, 0));
            Check.due("its length", 7, x.lengthOf(0));
        }
    }

    // Promise 4

    private static void changeEdges() {
        ParagraphBreaker x = Paragraph.alike(12, 0, 10, 12, 0);
        Check.due("the first word's penalty, least", true, x.change(0, 12, -40));
        Check.due("cost", -40, x.cost());
        Check.due("the first word's penalty, greatest", true, x.change(0, 12, 40));
        Check.due("cost", 40, x.cost());
        Check.due("the last word's width, least", true, x.change(9, 1, 0));
        Check.due("length", 1, x.lengthOf(9));
        Check.due("the last word's width, greatest", true, x.change(9, 12, 0));
        Check.due("length", 12, x.lengthOf(9));
        Check.due("to the same", true, x.change(9, 12, 0));
        Check.due("words", 10, x.words());
    }

    private static void refusedChange(ParagraphBreaker x, int i, int width, int penalty) {
        String before = Paragraph.answers(x);
        String call = "change(" + i + ", " + width + ", " + penalty + ")";
        Check.due(call, false, x.change(i, width, penalty));
        Check.due("answers after " + call, before, Paragraph.answers(x));
    }

    private static void changeNoWord() {
        for (ParagraphBreaker x : withoutWords()) {
            refusedChange(x, 0, 5, 0);
            refusedChange(x, -1, 5, 0);
        }
        refusedChange(Paragraph.made(20, 10, 3, 1, 4, 2), 2, 5, 0);
        for (int i : NEVER) {
            refusedChange(Paragraph.made(20, 10, 3, 1, 4, 2), i, 5, 0);
            refusedChange(Paragraph.alike(20, 10, 10, 4, 2), i, 5, 0);
        }
        ParagraphBreaker shortened = Paragraph.made(20, 10, 3, 1, 4, 2);
        shortened.back();
        refusedChange(shortened, 1, 5, 0);
    }

    private static void changeOutOfRange() {
        for (int width : NOT_WIDTHS) {
            refusedChange(Paragraph.made(20, 10, 3, 1, 4, 2), 0, width, 7);
        }
        for (int penalty : NOT_PENALTIES) {
            refusedChange(Paragraph.made(20, 10, 3, 1, 4, 2), 0, 5, penalty);
        }
        refusedChange(Paragraph.made(20, 10, 3, 1, 4, 2), 0, 0, 41);
        refusedChange(Paragraph.made(20, 10, 3, 1, 4, 2), 2, 13, -41);
    }

    // Promise 5

    private static void setWidthEdges() {
        ParagraphBreaker x = Paragraph.made(20, 0, 1, 0, 1, 0);
        for (int width : new int[] {5, 60, 60, 6, 59, 5}) {
            Check.due("setWidth(" + width + ")", true, x.setWidth(width));
            Check.due("cost at " + width, (width - 1) * (width - 1), x.costBreaking(0));
        }
        Check.due("words", 2, x.words());
        Check.due("without words", true, new ParagraphBreaker(20, 0).setWidth(60));
    }

    private static void setWidthRefused() {
        for (int width : NOT_LINE_WIDTHS) {
            ParagraphBreaker x = Paragraph.made(20, 10, 3, 1, 4, 2, 12, 3, 12, 4);
            String before = Paragraph.answers(x);
            Check.due("setWidth(" + width + ")", false, x.setWidth(width));
            Check.due("answers after setWidth(" + width + ")", before, Paragraph.answers(x));
        }
    }

    // Promise 6

    private static void numberOfWords() {
        for (ParagraphBreaker x : withoutWords()) {
            Check.due("none", 0, x.words());
        }
        Check.due("one", 1, Paragraph.made(20, 0, 3, 0).words());
        Check.due("ten", 10, tenLines().words());
        Check.due("one without a breaking", 1, Paragraph.made(5, 0, 6, 0).words());
    }

    // Promises 7, 8 and 15

    private static void costOfNoWords() {
        for (ParagraphBreaker x : withoutWords()) {
            Check.due("cost", 0, x.cost());
        }
    }

    private static void costOfNoBreaking() {
        for (ParagraphBreaker x : withoutBreaking()) {
            Check.due("cost", NONE, x.cost());
            x.setWidth(60);
            Check.due("there is one on a wider line", true, x.cost() != NONE);
        }
    }

    /** Words of 12 on a line of 24 stand alone, as two are one too long: no breaking is cheap. */
    private static void greatCosts() {
        ParagraphBreaker x = Paragraph.alike(24, 100, 10, 12, 40);
        int due = 9 * 144 + 9 * 40 + 8 * 100;
        Check.due("a great cost", due, x.cost());
        Check.due("its lines", 10, x.lines());
        Check.due("its choices", 1, x.choices());
        Check.due("costWith(10)", due, x.costWith(10));
        Check.due("costBreaking(8)", due, x.costBreaking(8));
        Check.due("lineOf(9)", 9, x.lineOf(9));
        Check.due("the greatest cost of any breaking", 9 * 59 * 59 + 9 * 40 + 8 * 100,
            Paragraph.alike(60, 100, 10, 1, 40).costWith(10));
    }

    private static void linesOfNoWords() {
        for (ParagraphBreaker x : withoutWords()) {
            Check.due("lines", 0, x.lines());
        }
    }

    private static void linesOfNoBreaking() {
        for (ParagraphBreaker x : withoutBreaking()) {
            Check.due("lines", 0, x.lines());
        }
    }

    private static void choicesOfNoWords() {
        for (ParagraphBreaker x : withoutWords()) {
            Check.due("choices", 1, x.choices());
        }
    }

    private static void choicesOfNoBreaking() {
        for (ParagraphBreaker x : withoutBreaking()) {
            Check.due("choices", 0, x.choices());
        }
    }

    /** One line costs 0; two cost 16 and the penalty. */
    private static void choicesNearATie() {
        Check.due("two lines cost 1 more", 1, Paragraph.made(10, 0, 6, -15, 2, 0).choices());
        Check.due("two lines cost as much", 2, Paragraph.made(10, 0, 6, -16, 2, 0).choices());
        Check.due("two lines cost 1 less", 1, Paragraph.made(10, 0, 6, -17, 2, 0).choices());
        Check.due("one word", 1, Paragraph.made(10, 0, 6, -16).choices());
        Check.due("ten words, each a line", 1, tenLines().choices());
        // On 5 the lines 5 | 1 1 cost -40, and 5 | 1 | 1 cost -40 + 16 - 16.
        Check.due("a tie below 0", 2, Paragraph.made(5, 0, 5, -40, 1, -16, 1, 0).choices());
    }

    // Promises 9, 10 and 11

    private static void lineOfFirstAndLast() {
        ParagraphBreaker x = tenLines();
        for (int i = 0; i < 10; i++) {
            Check.due("lineOf(" + i + ")", i, x.lineOf(i));
        }
        ParagraphBreaker one = Paragraph.alike(60, 0, 10, 3, 0);
        Check.due("the first of one line", 0, one.lineOf(0));
        Check.due("the last of one line", 0, one.lineOf(9));
        ParagraphBreaker two = Paragraph.made(10, 0, 4, 0, 4, 0, 4, 0, 4, 0);
        Check.due("the last of the first line", 0, two.lineOf(1));
        Check.due("the first of the second line", 1, two.lineOf(2));
    }

    private static void lineOfNoWord() {
        ParagraphBreaker ten = tenLines();
        ParagraphBreaker two = Paragraph.made(20, 0, 3, 0, 3, 0, 3, 0);
        two.back();
        Check.due("the word after the last", BAD, two.lineOf(2));
        for (int i : NEVER) {
            Check.due("lineOf(" + i + ") of ten", BAD, ten.lineOf(i));
            Check.due("lineOf(" + i + ") of two", BAD, two.lineOf(i));
        }
    }

    private static void lineOfNoBreaking() {
        for (ParagraphBreaker x : withoutBreaking()) {
            for (int i = -1; i <= 10; i++) {
                Check.due("lineOf(" + i + ")", BAD, x.lineOf(i));
            }
        }
    }

    private static void endOfFirstAndLast() {
        ParagraphBreaker x = tenLines();
        for (int k = 0; k < 10; k++) {
            Check.due("endOf(" + k + ")", k, x.endOf(k));
        }
        Check.due("one line of ten words", 9, Paragraph.alike(60, 0, 10, 3, 0).endOf(0));
        Check.due("one word", 0, Paragraph.made(60, 0, 3, 0).endOf(0));
    }

    private static void endOfNoLine() {
        ParagraphBreaker ten = tenLines();
        ParagraphBreaker two = Paragraph.made(10, 0, 4, 0, 4, 0, 4, 0, 4, 0);
        Check.due("the line after the last", BAD, two.endOf(2));
        for (int k : NEVER) {
            Check.due("endOf(" + k + ") of ten", BAD, ten.endOf(k));
            Check.due("endOf(" + k + ") of two", BAD, two.endOf(k));
        }
        for (ParagraphBreaker x : withoutBreaking()) {
            Check.due("endOf(0) without a breaking", BAD, x.endOf(0));
            Check.due("endOf(-1) without a breaking", BAD, x.endOf(-1));
        }
    }

    private static void lengthOfFirstAndLast() {
        ParagraphBreaker x = Paragraph.made(10, 0, 4, 0, 4, 0, 9, 0, 5, 0, 4, 0);
        Check.due("the first line", 10, x.lengthOf(0));
        Check.due("a line of one word", 9, x.lengthOf(1));
        Check.due("the last line, with its gap made narrower", 11, x.lengthOf(2));
        Check.due("ten of the widest on lines of 60", 54, Paragraph.alike(60, 0, 10, 12, 0).lengthOf(0));
        Check.due("the tenth line", 12, tenLines().lengthOf(9));
    }

    private static void lengthOfNoLine() {
        ParagraphBreaker ten = tenLines();
        ParagraphBreaker two = Paragraph.made(10, 0, 4, 0, 4, 0, 4, 0, 4, 0);
        Check.due("the line after the last", BAD, two.lengthOf(2));
        for (int k : NEVER) {
            Check.due("lengthOf(" + k + ") of ten", BAD, ten.lengthOf(k));
            Check.due("lengthOf(" + k + ") of two", BAD, two.lengthOf(k));
        }
        for (ParagraphBreaker x : withoutBreaking()) {
            Check.due("lengthOf(0) without a breaking", BAD, x.lengthOf(0));
            Check.due("lengthOf(-1) without a breaking", BAD, x.lengthOf(-1));
        }
    }

    // Promise 12

    private static void exactlyLines() {
        ParagraphBreaker x = Paragraph.made(10, 0, 4, 1, 4, 2, 2, 3);
        Check.due("one line, too long", NONE, x.costWith(1));
        Check.due("two lines", 2, x.costWith(2));
        Check.due("three lines, dearer", 36 + 1 + 36 + 2, x.costWith(3));
        Check.due("one word on one line", 0, Paragraph.made(10, 0, 4, 1).costWith(1));
        Check.due("ten words on ten lines", 9, tenLines().costWith(10));
    }

    private static void costWithNone() {
        Check.due("ten lines are needed", NONE, tenLines().costWith(9));
        Check.due("one line does not do", NONE, tenLines().costWith(1));
        for (ParagraphBreaker x : withoutBreaking()) {
            for (int n = -1; n <= 11; n++) {
                Check.due("costWith(" + n + ") without a breaking", NONE, x.costWith(n));
            }
        }
    }

    private static void costWithNoWords() {
        for (ParagraphBreaker x : withoutWords()) {
            Check.due("costWith(0)", 0, x.costWith(0));
            Check.due("costWith(1)", NONE, x.costWith(1));
            Check.due("costWith(-1)", NONE, x.costWith(-1));
        }
    }

    // Promises 13 and 14

    private static void costBreakingFirstAndLast() {
        ParagraphBreaker x = tenLines();
        Check.due("after the first word", 9, x.costBreaking(0));
        Check.due("after the last word but one", 9, x.costBreaking(8));
        Check.due("of two words", 36 + 1, Paragraph.made(10, 0, 4, 1, 4, 2).costBreaking(0));
    }

    private static void costBreakingNone() {
        for (ParagraphBreaker x : withoutBreaking()) {
            for (int i = -1; i <= 10; i++) {
                Check.due("costBreaking(" + i + ")", NONE, x.costBreaking(i));
            }
        }
    }

    private static void costBreakingLastWord() {
        Check.due("the only word", NONE, Paragraph.made(10, 0, 4, 1).costBreaking(0));
        Check.due("the second word", NONE, Paragraph.made(10, 0, 4, 1, 4, 2).costBreaking(1));
        Check.due("the tenth word", NONE, tenLines().costBreaking(9));
        ParagraphBreaker x = Paragraph.made(10, 0, 4, 1, 4, 2, 4, 3);
        Check.due("not yet the last", 2, x.costBreaking(1));
        x.back();
        Check.due("the last now", NONE, x.costBreaking(1));
    }

    private static void costBreakingNoWord() {
        ParagraphBreaker ten = tenLines();
        ParagraphBreaker two = Paragraph.made(10, 0, 4, 1, 4, 2);
        Check.due("the word after the last", NONE, two.costBreaking(2));
        for (int i : NEVER) {
            Check.due("costBreaking(" + i + ") of ten", NONE, ten.costBreaking(i));
            Check.due("costBreaking(" + i + ") of two", NONE, two.costBreaking(i));
            for (ParagraphBreaker x : withoutWords()) {
                Check.due("costBreaking(" + i + ") of none", NONE, x.costBreaking(i));
                Check.due("costBreaking(0) of none", NONE, x.costBreaking(0));
            }
        }
    }

    private static void costKeepingFirstAndLast() {
        ParagraphBreaker x = Paragraph.alike(60, 0, 10, 3, 1);
        Check.due("the first word", 0, x.costKeeping(0));
        Check.due("the last word but one", 0, x.costKeeping(8));
        Check.due("of two words", 0, Paragraph.made(10, 0, 4, 1, 4, 2).costKeeping(0));
    }

    private static void costKeepingNone() {
        Check.due("words that do not fit on one line", NONE, Paragraph.made(10, 0, 5, 0, 5, 0).costKeeping(0));
        Check.due("words that just fit on one line", 3, Paragraph.made(10, 0, 5, 0, 4, 0).costKeeping(0));
        for (ParagraphBreaker x : withoutBreaking()) {
            for (int i = -1; i <= 10; i++) {
                Check.due("costKeeping(" + i + ")", NONE, x.costKeeping(i));
            }
        }
    }

    private static void costKeepingLastWord() {
        Check.due("the only word", NONE, Paragraph.made(10, 0, 4, 1).costKeeping(0));
        Check.due("the second word", NONE, Paragraph.made(10, 0, 4, 1, 4, 2).costKeeping(1));
        Check.due("the tenth word", NONE, Paragraph.alike(60, 0, 10, 3, 1).costKeeping(9));
        ParagraphBreaker x = Paragraph.made(10, 0, 4, 1, 4, 2, 4, 3);
        Check.due("not yet the last", 36 + 1, x.costKeeping(1));
        x.back();
        Check.due("the last now", NONE, x.costKeeping(1));
    }

    private static void costKeepingNoWord() {
        ParagraphBreaker ten = Paragraph.alike(60, 0, 10, 3, 1);
        ParagraphBreaker two = Paragraph.made(10, 0, 4, 1, 4, 2);
        Check.due("the word after the last", NONE, two.costKeeping(2));
        for (int i : NEVER) {
            Check.due("costKeeping(" + i + ") of ten", NONE, ten.costKeeping(i));
            Check.due("costKeeping(" + i + ") of two", NONE, two.costKeeping(i));
            for (ParagraphBreaker x : withoutWords()) {
                Check.due("costKeeping(" + i + ") of none", NONE, x.costKeeping(i));
                Check.due("costKeeping(0) of none", NONE, x.costKeeping(0));
            }
        }
    }

    // Promise 16

    private static void badBeforeFull() {
        ParagraphBreaker x = tenLines();
        for (int width : NOT_WIDTHS) {
            Check.due("word(" + width + ", 0) when full", BAD, x.word(width, 0));
        }
        for (int penalty : NOT_PENALTIES) {
            Check.due("word(1, " + penalty + ") when full", BAD, x.word(1, penalty));
        }
        for (int width : new int[] {1, 12}) {
            Check.due("word(" + width + ", -40) when full", FULL, x.word(width, -40));
            Check.due("word(" + width + ", 40) when full", FULL, x.word(width, 40));
        }
    }

    private static void refusedWord(ParagraphBreaker x, int width, int penalty, int due) {
        String before = Paragraph.answers(x);
        String call = "word(" + width + ", " + penalty + ")";
        Check.due(call, due, x.word(width, penalty));
        Check.due("answers after " + call, before, Paragraph.answers(x));
    }

    private static void refusedWords() {
        for (int width : NOT_WIDTHS) {
            refusedWord(new ParagraphBreaker(20, 10), width, 5, BAD);
            refusedWord(Paragraph.made(20, 10, 3, 1, 4, 2), width, 5, BAD);
            refusedWord(Paragraph.alike(20, 10, 10, 3, 1), width, 5, BAD);
        }
        for (int penalty : NOT_PENALTIES) {
            refusedWord(new ParagraphBreaker(20, 10), 5, penalty, BAD);
            refusedWord(Paragraph.made(20, 10, 3, 1, 4, 2), 5, penalty, BAD);
            refusedWord(Paragraph.alike(20, 10, 10, 3, 1), 5, penalty, BAD);
        }
        refusedWord(Paragraph.alike(20, 10, 10, 3, 1), 12, -40, FULL);
        refusedWord(Paragraph.alike(5, 10, 10, 6, 1), 1, 0, FULL);
    }

    private static void lineOfNoWords() {
        for (ParagraphBreaker x : withoutWords()) {
            Check.due("lineOf(0)", BAD, x.lineOf(0));
            for (int i : NEVER) {
                Check.due("lineOf(" + i + ")", BAD, x.lineOf(i));
            }
        }
    }

    private static void endOfNoWords() {
        for (ParagraphBreaker x : withoutWords()) {
            Check.due("endOf(0)", BAD, x.endOf(0));
            for (int k : NEVER) {
                Check.due("endOf(" + k + ")", BAD, x.endOf(k));
            }
        }
    }

    private static void lengthOfNoWords() {
        for (ParagraphBreaker x : withoutWords()) {
            Check.due("lengthOf(0)", BAD, x.lengthOf(0));
            for (int k : NEVER) {
                Check.due("lengthOf(" + k + ")", BAD, x.lengthOf(k));
            }
        }
    }

    private static void costWithBelow() {
        for (int n : new int[] {-1, -2, -10, -32, LEAST + 1, LEAST}) {
            Check.due("costWith(" + n + ") of ten", NONE, tenLines().costWith(n));
            Check.due("costWith(" + n + ") of one", NONE, Paragraph.made(10, 0, 4, 1).costWith(n));
            Check.due("costWith(" + n + ") of none", NONE, new ParagraphBreaker(10, 0).costWith(n));
        }
    }

    private static void costWithAbove() {
        for (int words = 0; words <= 10; words++) {
            ParagraphBreaker x = Paragraph.alike(60, 0, words, 3, 1);
            for (int n : new int[] {words + 1, words + 2, 11, 32, 33, MOST - 1, MOST}) {
                Check.due("costWith(" + n + ") of " + words, NONE, x.costWith(n));
            }
            Check.due("costWith(" + words + ") of " + words, true, x.costWith(words) != NONE);
        }
    }

    private static void costWithZero() {
        for (int words = 1; words <= 10; words++) {
            Check.due("costWith(0) of " + words, NONE, Paragraph.alike(60, 0, words, 3, 1).costWith(0));
        }
    }
}
