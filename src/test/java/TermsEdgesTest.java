/** A test for each sentence under "Terms", and for the count of calls, that names a boundary case. */
public final class TermsEdgesTest {
    private static final int NONE = ParagraphBreaker.NONE;
    private static final int FULL = ParagraphBreaker.FULL;
    private static final String TERMS = "Terms";

    public static void main(String[] args) {
        Check.sentence("What it is", "at most 512 calls after it has been made", TermsEdgesTest::calls);
        Check.sentence(TERMS, "at most ten WORDS 0, 1, ..", TermsEdgesTest::tenWords);
        Check.sentence(TERMS, "a width (1 .. 12)", TermsEdgesTest::wordWidths);
        Check.sentence(TERMS, "a PENALTY (-40 .. 40)", TermsEdgesTest::penalties);
        Check.sentence(TERMS, "GAPS of width 2 each", TermsEdgesTest::gaps);
        Check.sentence(TERMS, "FITS when its length is at most the width of the line plus the number of its gaps",
            TermsEdgesTest::fits);
        Check.sentence(TERMS, "for the LAST line 0 when d is 0 or more", TermsEdgesTest::lastLineWithRoom);
        Check.sentence(TERMS, "for the LAST line .. else d * d * 3", TermsEdgesTest::lastLineTooLong);
        Check.sentence(TERMS, "for any other line d * d when d is 0 or more", TermsEdgesTest::otherLineWithRoom);
        Check.sentence(TERMS, "for any other line .. else d * d * 3", TermsEdgesTest::otherLineTooLong);
        Check.sentence(TERMS, "lines that all fit", TermsEdgesTest::allFit);
        Check.sentence(TERMS, "each with at least one word", TermsEdgesTest::noEmptyLine);
        Check.sentence(TERMS, "not of the last word", TermsEdgesTest::lastPenalty);
        Check.sentence(TERMS, "both of which end after a word with a penalty above 0", TermsEdgesTest::extra);
        Check.sentence(TERMS, "EXTRA for every two lines that follow each other", TermsEdgesTest::extraForPairs);
        Check.sentence(TERMS, "the last line .. does not count for that", TermsEdgesTest::extraAtTheEnd);
        Check.sentence(TERMS, "of those with the least cost, the one with the fewest lines",
            TermsEdgesTest::fewestLines);
        Check.sentence(TERMS, "least in the dictionary order", TermsEdgesTest::dictionaryOrder);
        Check.end();
    }

    /** Words come and go and come back, so that call 512 is answered on a paragraph that was full. */
    private static void calls() {
        ParagraphBreaker x = new ParagraphBreaker(12, 0);
        for (int round = 0; round < 25; round++) {
            for (int i = 0; i < 10; i++) {
                Check.due("round " + round + " word", i, x.word(12, round));
            }
            for (int i = 9; i >= 0; i--) {
                Check.due("round " + round + " back", i, x.back());
            }
        }
        for (int i = 0; i < 10; i++) {
            Check.due("word after 500 calls", i, x.word(12, -40));
        }
        Check.due("call 511", 10, x.lines());
        Check.due("call 512", -360, x.cost());
    }

    private static void tenWords() {
        ParagraphBreaker x = Paragraph.alike(60, 0, 10, 1, 0);
        Check.due("length of ten words", 10 + 18, x.lengthOf(0));
        Check.due("lineOf(9)", 0, x.lineOf(9));
        Check.due("the eleventh", FULL, x.word(1, 0));
        Check.due("words", 10, x.words());
    }

    private static void wordWidths() {
        Check.due("length of the narrowest", 1, Paragraph.made(60, 0, 1, 0).lengthOf(0));
        Check.due("length of the widest", 12, Paragraph.made(60, 0, 12, 0).lengthOf(0));
        Check.due("length of ten of the widest, one a line", 12, Paragraph.alike(12, 0, 10, 12, 0).lengthOf(9));
    }

    /** A word as wide as the line has no badness, so that a break after it costs its penalty alone. */
    private static void penalties() {
        for (int penalty : new int[] {-40, -39, -1, 0, 1, 39, 40}) {
            Check.due("cost with penalty " + penalty, penalty, Paragraph.made(9, 0, 9, penalty, 9, 0).cost());
        }
        Check.due("nine of the least", -360, Paragraph.alike(12, 100, 10, 12, -40).cost());
        Check.due("nine of the greatest, with extra", 9 * 40 + 8 * 100, Paragraph.alike(12, 100, 10, 12, 40).cost());
    }

    private static void gaps() {
        for (int words = 1; words <= 10; words++) {
            ParagraphBreaker x = Paragraph.alike(60, 0, words, 3, 0);
            Check.due("length of " + words + " words", 3 * words + 2 * (words - 1), x.lengthOf(0));
        }
    }

    private static void fits() {
        Check.due("no gap, length 5 on 5", 0, Paragraph.made(5, 0, 5, 0).cost());
        Check.due("no gap, length 6 on 5", NONE, Paragraph.made(5, 0, 6, 0).cost());
        Check.due("one gap, length 11 on 10", 3, Paragraph.made(10, 0, 5, 0, 4, 0).costKeeping(0));
        Check.due("one gap, length 12 on 10", NONE, Paragraph.made(10, 0, 5, 0, 5, 0).costKeeping(0));
        Check.due("two gaps, length 12 on 10", 12, Paragraph.made(10, 0, 3, 0, 3, 0, 2, 0).costWith(1));
        Check.due("two gaps, length 13 on 10", NONE, Paragraph.made(10, 0, 3, 0, 3, 0, 3, 0).costWith(1));
        ParagraphBreaker x = Paragraph.alike(60, 0, 10, 5, 0);
        x.change(9, 6, 0);
        Check.due("nine gaps, length 69 on 60", 243, x.costWith(1));
        x.change(9, 7, 0);
        Check.due("nine gaps, length 70 on 60", NONE, x.costWith(1));
        Check.due("first line, no gap, length 6 on 5", NONE, Paragraph.made(5, 0, 6, 0, 1, 0).cost());
        Check.due("first line, length 11 on 10", 3, Paragraph.made(10, 0, 5, 0, 4, 0, 9, 0).costKeeping(0));
        Check.due("first line, length 12 on 10", NONE, Paragraph.made(10, 0, 5, 0, 5, 0, 9, 0).costKeeping(0));
    }

    private static void lastLineWithRoom() {
        Check.due("d is 59", 0, Paragraph.made(60, 0, 1, 0).cost());
        Check.due("d is 1", 0, Paragraph.made(10, 0, 4, 0, 3, 0).costWith(1));
        Check.due("d is 0", 0, Paragraph.made(10, 0, 4, 0, 4, 0).costWith(1));
        Check.due("d is 9 after a full line", 0, Paragraph.made(10, 0, 10, 0, 1, 0).cost());
    }

    private static void lastLineTooLong() {
        Check.due("d is -1", 3, Paragraph.made(10, 0, 5, 0, 4, 0).costWith(1));
        Check.due("d is -2", 12, Paragraph.made(10, 0, 3, 0, 3, 0, 2, 0).costWith(1));
        Check.due("d is -1 after a full line", 3, Paragraph.made(10, 0, 10, 0, 5, 0, 4, 0).costKeeping(1));
    }

    /** The word of width 9 at the end fits with no other word, so that the words before it are one line. */
    private static void otherLineWithRoom() {
        Check.due("d is 0", 0, Paragraph.made(10, 0, 4, 0, 4, 0, 9, 0).costWith(2));
        Check.due("d is 1", 1, Paragraph.made(10, 0, 4, 0, 3, 0, 9, 0).costWith(2));
        Check.due("d is 2", 4, Paragraph.made(10, 0, 3, 0, 3, 0, 9, 0).costWith(2));
        Check.due("d is 59", 59 * 59, Paragraph.made(60, 0, 1, 0, 1, 0).costBreaking(0));
        Check.due("nine times 59", 9 * 59 * 59, Paragraph.alike(60, 0, 10, 1, 0).costWith(10));
    }

    private static void otherLineTooLong() {
        Check.due("d is -1", 3, Paragraph.made(10, 0, 5, 0, 4, 0, 9, 0).costWith(2));
        Check.due("d is -2", 12, Paragraph.made(10, 0, 3, 0, 3, 0, 2, 0, 9, 0).costWith(2));
    }

    private static void allFit() {
        Check.due("the first word alone does not fit", NONE, Paragraph.made(11, 0, 12, 0, 1, 0, 1, 0).cost());
        Check.due("a word between does not fit", NONE, Paragraph.made(11, 0, 1, 0, 12, 0, 1, 0).cost());
        Check.due("the last word alone does not fit", NONE, Paragraph.made(11, 0, 1, 0, 1, 0, 12, 0).cost());
        Check.due("all words fit", 100 + 0, Paragraph.made(11, 0, 1, 0, 11, 0, 1, 0).cost());
        // A penalty that would pay for it does not make a line fit.
        Paragraph.ends("a line that is too long", Paragraph.made(10, 0, 5, 40, 5, -40), 0, 1);
    }

    private static void noEmptyLine() {
        Check.due("no line for no words", 0, new ParagraphBreaker(10, 0).lines());
        Check.due("one word on two lines", NONE, Paragraph.made(10, 0, 3, -40).costWith(2));
        Check.due("one word on no line", NONE, Paragraph.made(10, 0, 3, -40).costWith(0));
        Check.due("two words on three lines", NONE, Paragraph.made(10, 0, 10, -40, 3, -40).costWith(3));
        Check.due("ten words on ten lines", 0, Paragraph.alike(12, 0, 10, 12, 0).costWith(10));
        Check.due("ten words on eleven lines", NONE, Paragraph.alike(12, 0, 10, 12, 0).costWith(11));
    }

    private static void lastPenalty() {
        for (int penalty : new int[] {-40, 40}) {
            Check.due("one word, penalty " + penalty, 0, Paragraph.made(10, 0, 3, penalty).cost());
            Check.due("two lines, penalty " + penalty, 1, Paragraph.made(10, 0, 10, 1, 3, penalty).cost());
        }
        ParagraphBreaker x = Paragraph.made(10, 0, 10, 1, 10, -40);
        Check.due("the last word's penalty", 1, x.cost());
        x.word(10, 0);
        Check.due("it counts when another word follows", 1 - 40, x.cost());
        x.back();
        Check.due("it does not when that one is gone", 1, x.cost());
    }

    /** Three words that fill a line each: two breaks, with the penalties told. */
    private static void extra() {
        int[][] pairs = {{1, 1, 50}, {40, 40, 50}, {1, 0, 0}, {0, 1, 0}, {0, 0, 0}, {-1, 1, 0}, {1, -1, 0},
            {-1, -1, 0}};
        for (int[] p : pairs) {
            Check.due("penalties " + p[0] + " and " + p[1], p[0] + p[1] + p[2],
                Paragraph.made(5, 50, 5, p[0], 5, p[1], 5, 0).cost());
        }
    }

    private static void extraForPairs() {
        Check.due("no two lines", 0, Paragraph.made(5, 50, 5, 1).cost());
        for (int words = 2; words <= 10; words++) {
            int breaks = words - 1;
            Check.due(words + " lines", breaks + 50 * (breaks - 1), Paragraph.alike(5, 50, words, 5, 1).cost());
        }
        Check.due("a line between", 2, Paragraph.made(5, 50, 5, 1, 5, 0, 5, 1, 5, 0).cost());
        Check.due("a word with penalty 0 within the second line", 2 + 50,
            Paragraph.made(10, 50, 10, 1, 4, 0, 4, 1, 10, 0).costKeeping(1));
    }

    private static void extraAtTheEnd() {
        Check.due("two lines", 1, Paragraph.made(5, 50, 5, 1, 5, 40).cost());
        Check.due("three lines, the second at 0", 1, Paragraph.made(5, 50, 5, 1, 5, 0, 5, 40).cost());
        Check.due("three lines, the first at 0", 1, Paragraph.made(5, 50, 5, 0, 5, 1, 5, 40).cost());
    }

    /** One line costs 0; two cost 16 and the penalty. */
    private static void fewestLines() {
        Paragraph.ends("two lines cost 1 more", Paragraph.made(10, 0, 6, -15, 2, 0), 1);
        Paragraph.ends("two lines cost as much", Paragraph.made(10, 0, 6, -16, 2, 0), 1);
        Paragraph.ends("two lines cost 1 less", Paragraph.made(10, 0, 6, -17, 2, 0), 0, 1);
        // On 5 the lines 1 1 | 5 cost 1, and 1 | 1 | 5 cost 32 and the penalty.
        Paragraph.ends("three lines cost as much as two", Paragraph.made(5, 0, 1, -31, 1, 0, 5, 0), 1, 2);
        Paragraph.ends("three lines cost 1 less than two", Paragraph.made(5, 0, 1, -32, 1, 0, 5, 0), 0, 1, 2);
    }

    /** On 10 the words 4, 4, 4 break after word 0 for 36, and after word 1 for its penalty. */
    private static void dictionaryOrder() {
        Paragraph.ends("the later break costs 1 less", Paragraph.made(10, 0, 4, 0, 4, 35, 4, 0), 1, 2);
        Paragraph.ends("both cost as much", Paragraph.made(10, 0, 4, 0, 4, 36, 4, 0), 0, 2);
        Paragraph.ends("the later break costs 1 more", Paragraph.made(10, 0, 4, 0, 4, 37, 4, 0), 0, 2);
        Paragraph.ends("the second number decides", Paragraph.made(10, 0, 10, 0, 4, 0, 4, 36, 4, 0), 0, 1, 3);
        // 0 3 4 costs 144 + 16 + 12 and 1 2 4 costs 81 + 1 + 100 - 10.
        ParagraphBreaker x = Paragraph.made(20, 100, 8, 0, 1, 1, 10, -10, 1, 12, 12, 0);
        Check.due("choices", 2, x.choices());
        Paragraph.ends("the first number decides before the second", x, 0, 3, 4);
    }
}
