/**
 * Breaks a paragraph into lines as well as can be.
 *
 * A breaking is held as "cuts": one bit for every word but the last, set when the line breaks
 * after that word. Ten words have at most 512 breakings, so every question looks at all of them.
 */
public final class ParagraphBreaker {
    public static final int NONE = -1000000;
    public static final int FULL = -2;
    public static final int BAD = -1;

    private static final int MOST_WORDS = 10;
    private static final int LEAST_WORD_WIDTH = 1;
    private static final int MOST_WORD_WIDTH = 12;
    private static final int LEAST_PENALTY = -40;
    private static final int MOST_PENALTY = 40;
    private static final int LEAST_LINE_WIDTH = 5;
    private static final int MOST_LINE_WIDTH = 60;
    private static final int LEAST_EXTRA = 0;
    private static final int MOST_EXTRA = 100;
    private static final int GAP = 2;
    private static final int TIGHTNESS_FACTOR = 3;
    private static final int NO_BREAKING = -1;

    private final int[] widths = new int[MOST_WORDS];
    private final int[] penalties = new int[MOST_WORDS];
    private final int extra;
    private int lineWidth;
    private int count;

    public ParagraphBreaker(int width, int extra) {
        this.lineWidth = clamp(width, LEAST_LINE_WIDTH, MOST_LINE_WIDTH);
        this.extra = clamp(extra, LEAST_EXTRA, MOST_EXTRA);
        this.count = 0;
    }

    public int word(int width, int penalty) {
        if (!wordAllowed(width, penalty)) {
            return BAD;
        }
        if (count >= MOST_WORDS) {
            return FULL;
        }
        widths[count] = width;
        penalties[count] = penalty;
        count++;
        return count - 1;
    }

    public int back() {
        if (count == 0) {
            return BAD;
        }
        count--;
        return count;
    }

    public boolean change(int i, int width, int penalty) {
        if (!hasWord(i) || !wordAllowed(width, penalty)) {
            return false;
        }
        widths[i] = width;
        penalties[i] = penalty;
        return true;
    }

    public boolean setWidth(int width) {
        if (!inRange(width, LEAST_LINE_WIDTH, MOST_LINE_WIDTH)) {
            return false;
        }
        lineWidth = width;
        return true;
    }

    public int words() {
        return count;
    }

    public int cost() {
        int best = bestCuts();
        return best == NO_BREAKING ? NONE : costOfCuts(best);
    }

    public int lines() {
        int best = bestCuts();
        return best == NO_BREAKING ? 0 : linesInCuts(best);
    }

    public int lineOf(int i) {
        if (!hasWord(i)) {
            return BAD;
        }
        int best = bestCuts();
        return best == NO_BREAKING ? BAD : endsBefore(best, i);
    }

    public int endOf(int k) {
        int best = bestCuts();
        return best == NO_BREAKING ? BAD : endInCuts(best, k);
    }

    public int lengthOf(int k) {
        int best = bestCuts();
        if (best == NO_BREAKING) {
            return BAD;
        }
        int end = endInCuts(best, k);
        if (end == BAD) {
            return BAD;
        }
        int start = k == 0 ? 0 : endInCuts(best, k - 1) + 1;
        return lengthBetween(start, end);
    }

    public int costWith(int n) {
        int least = NONE;
        for (int cuts = lastCuts(); cuts >= 0; cuts--) {
            if (linesInCuts(cuts) == n) {
                int found = costOfCuts(cuts);
                least = lesserCost(least, found);
            }
        }
        return least;
    }

    public int costBreaking(int i) {
        return leastCostWhere(i, true);
    }

    public int costKeeping(int i) {
        return leastCostWhere(i, false);
    }

    public int choices() {
        int least = NONE;
        int ties = 0;
        for (int cuts = lastCuts(); cuts >= 0; cuts--) {
            int found = costOfCuts(cuts);
            if (found != NONE && (least == NONE || found < least)) {
                least = found;
                ties = 1;
            } else if (found != NONE && found == least) {
                ties++;
            }
        }
        return ties;
    }

    private static int clamp(int value, int least, int most) {
        if (value < least) {
            return least;
        }
        return value > most ? most : value;
    }

    private static boolean inRange(int value, int least, int most) {
        return value >= least && value <= most;
    }

    private static boolean wordAllowed(int width, int penalty) {
        return inRange(width, LEAST_WORD_WIDTH, MOST_WORD_WIDTH)
            && inRange(penalty, LEAST_PENALTY, MOST_PENALTY);
    }

    private boolean hasWord(int i) {
        return i >= 0 && i < count;
    }

    /** Without words 0 is the one breaking, with no lines, so that no question needs a case for it. */
    private int lastCuts() {
        return count < 2 ? 0 : (1 << (count - 1)) - 1;
    }

    /**
     * The earlier word has the higher bit: of two breakings with as many lines, the one with the
     * greater number is then the one whose ends come first in the dictionary order.
     */
    private boolean endsAfter(int cuts, int i) {
        return i >= count - 1 || ((cuts >> (count - 2 - i)) & 1) == 1;
    }

    private int endsBefore(int cuts, int limit) {
        int ends = 0;
        for (int i = 0; i < limit; i++) {
            if (endsAfter(cuts, i)) {
                ends++;
            }
        }
        return ends;
    }

    private int linesInCuts(int cuts) {
        return endsBefore(cuts, count);
    }

    private int endInCuts(int cuts, int k) {
        int line = 0;
        for (int i = 0; i < count; i++) {
            if (endsAfter(cuts, i)) {
                if (line == k) {
                    return i;
                }
                line++;
            }
        }
        return BAD;
    }

    private int lengthBetween(int start, int end) {
        int length = (end - start) * GAP;
        for (int i = start; i <= end; i++) {
            length += widths[i];
        }
        return length;
    }

    private boolean fits(int length, int gaps) {
        return length <= lineWidth + gaps;
    }

    private int badness(int length, boolean isLast) {
        int spare = lineWidth - length;
        if (spare < 0) {
            return spare * spare * TIGHTNESS_FACTOR;
        }
        return isLast ? 0 : spare * spare;
    }

    /** NONE when a line does not fit; no cost comes near that number. */
    private int costOfCuts(int cuts) {
        int total = 0;
        int start = 0;
        boolean afterPenalty = false;
        for (int end = 0; end < count; end++) {
            if (endsAfter(cuts, end)) {
                boolean isLast = end == count - 1;
                int length = lengthBetween(start, end);
                if (!fits(length, end - start)) {
                    return NONE;
                }
                total += badness(length, isLast);
                if (!isLast) {
                    boolean atPenalty = penalties[end] > 0;
                    total += penalties[end];
                    total += afterPenalty && atPenalty ? extra : 0;
                    afterPenalty = atPenalty;
                }
                start = end + 1;
            }
        }
        return total;
    }

    /** NONE is a small number but stands for no breaking, so it is never the lesser cost. */
    private static int lesserCost(int a, int b) {
        if (a == NONE) {
            return b;
        }
        return b == NONE || a < b ? a : b;
    }

    private int leastCostWhere(int i, boolean ends) {
        if (i < 0 || i >= count - 1) {
            return NONE;
        }
        int least = NONE;
        for (int cuts = lastCuts(); cuts >= 0; cuts--) {
            if (endsAfter(cuts, i) == ends) {
                int found = costOfCuts(cuts);
                least = lesserCost(least, found);
            }
        }
        return least;
    }

    /** Goes down from the greatest cuts, so that the first of a tie is first in the dictionary order. */
    private int bestCuts() {
        int best = NO_BREAKING;
        int bestCost = NONE;
        int bestLines = 0;
        for (int cuts = lastCuts(); cuts >= 0; cuts--) {
            int found = costOfCuts(cuts);
            if (found != NONE) {
                int foundLines = linesInCuts(cuts);
                boolean cheaper = best == NO_BREAKING || found < bestCost;
                boolean shorter = found == bestCost && foundLines < bestLines;
                if (cheaper || shorter) {
                    best = cuts;
                    bestCost = found;
                    bestLines = foundLines;
                }
            }
        }
        return best;
    }
}
