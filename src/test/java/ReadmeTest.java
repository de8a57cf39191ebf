/** What README.md shows is what the class answers. */
public final class ReadmeTest {
    private static final int NONE = ParagraphBreaker.NONE;
    private static final int BAD = ParagraphBreaker.BAD;
    private static final int FULL = ParagraphBreaker.FULL;

    public static void main(String[] args) {
        Check.sentence("README.md", "An example", ReadmeTest::example);
        Check.sentence("README.md", "A cost can be below 0, also -1 or -2", ReadmeTest::costsBelowZero);
        Check.end();
    }

    private static void example() {
        ParagraphBreaker p = new ParagraphBreaker(20, 10);
        Check.due("p.word(5, 0)", 0, p.word(5, 0));
        Check.due("p.word(7, 5)", 1, p.word(7, 5));
        Check.due("p.word(4, 0)", 2, p.word(4, 0));
        Check.due("p.word(6, -3)", 3, p.word(6, -3));
        Check.due("p.word(13, 0)", BAD, p.word(13, 0));
        Check.due("p.words()", 4, p.words());
        Check.due("p.lines()", 2, p.lines());
        Check.due("p.endOf(0)", 2, p.endOf(0));
        Check.due("p.lengthOf(0)", 20, p.lengthOf(0));
        Check.due("p.lineOf(3)", 1, p.lineOf(3));
        Check.due("p.cost()", 0, p.cost());
        Check.due("p.costWith(1)", NONE, p.costWith(1));
        Check.due("p.costWith(2)", 0, p.costWith(2));
        Check.due("p.costBreaking(1)", 41, p.costBreaking(1));
        Check.due("p.costKeeping(2)", 41, p.costKeeping(2));
        Check.due("p.choices()", 1, p.choices());
        Check.due("p.setWidth(5)", true, p.setWidth(5));
        Check.due("p.cost() with word 1 too wide", NONE, p.cost());
        Check.due("p.change(1, 5, 5)", true, p.change(1, 5, 5));
        Check.due("p.back()", 3, p.back());
        Check.due("p.lines() of three words", 3, p.lines());
        Check.due("p.cost() of three words", 5, p.cost());
    }

    /** Two words that fill a line each: the cost is the penalty of the first. */
    private static void costsBelowZero() {
        for (int penalty : new int[] {BAD, FULL, -40}) {
            ParagraphBreaker p = Paragraph.made(5, 0, 5, penalty, 5, 0);
            Check.due("cost with penalty " + penalty, penalty, p.cost());
            Check.due("costWith(2) with penalty " + penalty, penalty, p.costWith(2));
            Check.due("costBreaking(0) with penalty " + penalty, penalty, p.costBreaking(0));
        }
    }
}
