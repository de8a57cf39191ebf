/** What the tests share: paragraphs made in one go, and all the answers of one at a time. */
final class Paragraph {
    private Paragraph() {
    }

    /** Pairs of a width and a penalty. */
    static ParagraphBreaker made(int width, int extra, int... pairs) {
        ParagraphBreaker x = new ParagraphBreaker(width, extra);
        for (int p = 0; p + 1 < pairs.length; p += 2) {
            Check.due("word", p / 2, x.word(pairs[p], pairs[p + 1]));
        }
        return x;
    }

    /** Words that are all alike. */
    static ParagraphBreaker alike(int width, int extra, int words, int wordWidth, int penalty) {
        ParagraphBreaker x = new ParagraphBreaker(width, extra);
        for (int i = 0; i < words; i++) {
            Check.due("word", i, x.word(wordWidth, penalty));
        }
        return x;
    }

    static void ends(String what, ParagraphBreaker x, int... want) {
        Check.due(what + ": lines", want.length, x.lines());
        for (int k = 0; k < want.length; k++) {
            Check.due(what + ": endOf(" + k + ")", want[k], x.endOf(k));
        }
        Check.due(what + ": endOf after the last line", ParagraphBreaker.BAD, x.endOf(want.length));
    }

    /** All that can be asked, in 82 calls: of the 512 that an object is promised for, room for six times. */
    static String answers(ParagraphBreaker x) {
        StringBuilder all = new StringBuilder();
        all.append(x.words()).append(" words, cost ").append(x.cost()).append(", lines ").append(x.lines());
        all.append(", choices ").append(x.choices());
        for (int a = -1; a <= 11; a++) {
            all.append("; ").append(a).append(':');
            all.append(' ').append(x.lineOf(a)).append(' ').append(x.endOf(a)).append(' ').append(x.lengthOf(a));
            all.append(' ').append(x.costWith(a));
            all.append(' ').append(x.costBreaking(a)).append(' ').append(x.costKeeping(a));
        }
        return all.toString();
    }
}
