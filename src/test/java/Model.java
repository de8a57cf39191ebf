import java.util.ArrayList;
import java.util.List;

/** What the document says, told as lists: all breakings, each the list of the last words of its lines. */
final class Model {
    static final int NONE = -1000000;
    static final int FULL = -2;
    static final int BAD = -1;

    private record Word(int width, int penalty) {
    }

    private final List<Word> words = new ArrayList<>();
    private final int extra;
    private int width;

    Model(int width, int extra) {
        this.width = Math.max(5, Math.min(60, width));
        this.extra = Math.max(0, Math.min(100, extra));
    }

    private static boolean allowed(int width, int penalty) {
        return 1 <= width && width <= 12 && -40 <= penalty && penalty <= 40;
    }

    int word(int width, int penalty) {
        if (!allowed(width, penalty)) {
            return BAD;
        }
        if (words.size() == 10) {
            return FULL;
        }
        words.add(new Word(width, penalty));
        return words.size() - 1;
    }

    int back() {
        if (words.isEmpty()) {
            return BAD;
        }
        words.remove(words.size() - 1);
        return words.size();
    }

    boolean change(int i, int width, int penalty) {
        if (i < 0 || i >= words.size() || !allowed(width, penalty)) {
            return false;
        }
        words.set(i, new Word(width, penalty));
        return true;
    }

    boolean setWidth(int width) {
        if (width < 5 || width > 60) {
            return false;
        }
        this.width = width;
        return true;
    }

    int words() {
        return words.size();
    }

    private int length(int from, int to) {
        return words.subList(from, to + 1).stream().mapToInt(Word::width).sum() + 2 * (to - from);
    }

    private List<List<Integer>> breakings() {
        List<List<Integer>> all = new ArrayList<>();
        extend(new ArrayList<>(), 0, all);
        return all;
    }

    /** Takes every line that fits from the word start on; the lists come out in the dictionary order. */
    private void extend(List<Integer> ends, int start, List<List<Integer>> all) {
        if (start == words.size()) {
            all.add(new ArrayList<>(ends));
            return;
        }
        for (int end = start; end < words.size(); end++) {
            if (length(start, end) <= width + (end - start)) {
                ends.add(end);
                extend(ends, end + 1, all);
                ends.remove(ends.size() - 1);
            }
        }
    }

    private int costOf(List<Integer> ends) {
        int sum = 0;
        for (int k = 0; k < ends.size(); k++) {
            int d = width - length(k == 0 ? 0 : ends.get(k - 1) + 1, ends.get(k));
            boolean last = k == ends.size() - 1;
            sum += d < 0 ? 3 * d * d : last ? 0 : d * d;
            sum += last ? 0 : words.get(ends.get(k)).penalty();
        }
        for (int k = 0; k + 2 < ends.size(); k++) {
            if (words.get(ends.get(k)).penalty() > 0 && words.get(ends.get(k + 1)).penalty() > 0) {
                sum += extra;
            }
        }
        return sum;
    }

    /** Null when there is no breaking. */
    private List<Integer> best() {
        int least = breakings().stream().mapToInt(this::costOf).min().orElse(0);
        List<Integer> best = null;
        for (List<Integer> ends : breakings()) {
            if (costOf(ends) == least && (best == null || ends.size() < best.size())) {
                best = ends;
            }
        }
        return best;
    }

    int cost() {
        return breakings().stream().mapToInt(this::costOf).min().orElse(NONE);
    }

    int lines() {
        List<Integer> best = best();
        return best == null ? 0 : best.size();
    }

    int lineOf(int i) {
        List<Integer> best = best();
        if (best == null || i < 0 || i >= words.size()) {
            return BAD;
        }
        int line = 0;
        while (best.get(line) < i) {
            line++;
        }
        return line;
    }

    int endOf(int k) {
        List<Integer> best = best();
        return best == null || k < 0 || k >= best.size() ? BAD : best.get(k);
    }

    int lengthOf(int k) {
        List<Integer> best = best();
        if (best == null || k < 0 || k >= best.size()) {
            return BAD;
        }
        return length(k == 0 ? 0 : best.get(k - 1) + 1, best.get(k));
    }

    int costWith(int n) {
        return breakings().stream().filter(b -> b.size() == n).mapToInt(this::costOf).min().orElse(NONE);
    }

    int costBreaking(int i) {
        if (i < 0 || i >= words.size() - 1) {
            return NONE;
        }
        return breakings().stream().filter(b -> b.contains(i)).mapToInt(this::costOf).min().orElse(NONE);
    }

    int costKeeping(int i) {
        if (i < 0 || i >= words.size() - 1) {
            return NONE;
        }
        return breakings().stream().filter(b -> !b.contains(i)).mapToInt(this::costOf).min().orElse(NONE);
    }

    int choices() {
        int least = cost();
        return (int) breakings().stream().filter(b -> costOf(b) == least).count();
    }
}
