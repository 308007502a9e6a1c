import java.util.ArrayList;
import java.util.Arrays;
import java.util.List;

/** The document in its plainest form, every solution tried: what random runs are compared with. */
final class PlainModel {
    private final List<int[]> rows = new ArrayList<>();
    private final List<Integer> layers = new ArrayList<>();
    private List<long[]> lines = new ArrayList<>();
    private final List<int[]> splits = new ArrayList<>();
    private boolean whole;
    private int closings;
    private int[] solutions;

    private void changed() {
        lines.clear();
        splits.clear();
        whole = false;
        closings = 0;
        solutions = null;
    }

    private static boolean in(long x, long least, long most) {
        return least <= x && x <= most;
    }

    int row(int... r) {
        boolean such = in(r[0], 0, 1) && in(r[5], -9999, 9999) && rows.size() < 16;
        for (int w = 1; w <= 4; w++) {
            such &= in(r[w], -99, 99);
        }
        if (!such) {
            return -1;
        }
        changed();
        rows.add(r);
        return rows.size() - 1;
    }

    int push() {
        if (layers.size() == 8) {
            return -1;
        }
        changed();
        layers.add(rows.size());
        return layers.size();
    }

    int pop() {
        if (layers.isEmpty()) {
            return -1;
        }
        changed();
        int start = layers.remove(layers.size() - 1);
        int gone = 0;
        while (rows.size() > start) {
            rows.remove(rows.size() - 1);
            gone++;
        }
        return gone;
    }

    int ofRow(int i, int what) {
        return in(i, 0, rows.size() - 1) && in(what, 0, 5) ? rows.get(i)[what] : Integer.MIN_VALUE;
    }

    private boolean allHold(int[] x) {
        for (int[] r : rows) {
            int sum = r[1] * x[0] + r[2] * x[1] + r[3] * x[2] + r[4] * x[3];
            if (r[0] == 0 ? sum != r[5] : sum > r[5]) {
                return false;
            }
        }
        return true;
    }

    /** The solutions in their order, each as one number, since there may be close to a million. */
    private int[] all() {
        if (solutions == null) {
            int[] held = new int[31 * 31 * 31 * 31];
            int many = 0;
            int code = 0;
            int[] x = new int[4];
            for (x[0] = -15; x[0] <= 15; x[0]++) {
                for (x[1] = -15; x[1] <= 15; x[1]++) {
                    for (x[2] = -15; x[2] <= 15; x[2]++) {
                        for (x[3] = -15; x[3] <= 15; x[3]++) {
                            if (allHold(x)) {
                                held[many] = code;
                                many++;
                            }
                            code++;
                        }
                    }
                }
            }
            solutions = Arrays.copyOf(held, many);
        }
        return solutions;
    }

    private static int valueIn(int code, int word) {
        int digits = code;
        for (int w = 3; w > word; w--) {
            digits /= 31;
        }
        return digits % 31 - 15;
    }

    boolean decide() {
        return all().length > 0;
    }

    int first(int word) {
        return in(word, 0, 3) && decide() ? valueIn(all()[0], word) : -100;
    }

    int solutions() {
        return all().length;
    }

    int range(int word, boolean most) {
        if (!in(word, 0, 3) || !decide()) {
            return -100;
        }
        int best = valueIn(all()[0], word);
        for (int code : all()) {
            best = most ? Math.max(best, valueIn(code, word)) : Math.min(best, valueIn(code, word));
        }
        return best;
    }

    private int come(long[] line) {
        if (whole || lines.size() == 200) {
            return -1;
        }
        lines.add(line);
        return lines.size() - 1;
    }

    private static long[] ofWord(int word, int number, int bound) {
        long[] line = new long[5];
        line[word] = number;
        line[4] = bound;
        return line;
    }

    int assume(int row, boolean turned) {
        if (!in(row, 0, rows.size() - 1) || turned && rows.get(row)[0] == 1) {
            return -1;
        }
        long[] line = new long[5];
        for (int c = 0; c < 5; c++) {
            line[c] = turned ? -rows.get(row)[c + 1] : rows.get(row)[c + 1];
        }
        return come(line);
    }

    int bound(int word, boolean lower) {
        return in(word, 0, 3) ? come(ofWord(word, lower ? -1 : 1, 15)) : -1;
    }

    int add(int a, int m, int b, int n) {
        if (!in(a, 0, lines.size() - 1) || !in(b, 0, lines.size() - 1) || !in(m, 0, 1000) || !in(n, 0, 1000)) {
            return -1;
        }
        long[] line = new long[5];
        for (int c = 0; c < 5; c++) {
            line[c] = m * lines.get(a)[c] + n * lines.get(b)[c];
            long most = c < 4 ? 1_000_000_000L : 1_000_000_000_000L;
            if (!in(line[c], -most, most)) {
                return -1;
            }
        }
        return come(line);
    }

    int divide(int a, int d) {
        if (!in(a, 0, lines.size() - 1) || !in(d, 1, 1_000_000_000)) {
            return -1;
        }
        long[] line = new long[5];
        for (int c = 0; c < 5; c++) {
            long rest = lines.get(a)[c] % d;
            if (c < 4 && rest != 0) {
                return -1;
            }
            line[c] = lines.get(a)[c] / d - (rest < 0 ? 1 : 0);
        }
        return come(line);
    }

    int split(int word, int k) {
        if (!in(word, 0, 3) || !in(k, -16, 15) || splits.size() == 10) {
            return -1;
        }
        int number = come(ofWord(word, 1, k));
        if (number >= 0) {
            splits.add(new int[] {word, k, 1, number});
        }
        return number;
    }

    int close(int line) {
        if (whole || !in(line, 0, lines.size() - 1)) {
            return -1;
        }
        long[] l = lines.get(line);
        if (l[0] != 0 || l[1] != 0 || l[2] != 0 || l[3] != 0 || l[4] >= 0) {
            return -1;
        }
        closings++;
        closeInnermost();
        return splits.size();
    }

    private void keepLines(int many) {
        lines = new ArrayList<>(lines.subList(0, many));
    }

    private void closeInnermost() {
        if (splits.isEmpty()) {
            whole = true;
            return;
        }
        int[] s = splits.get(splits.size() - 1);
        keepLines(s[3]);
        if (s[2] == 1) {
            s[2] = 2;
            lines.add(ofWord(s[0], -1, -s[1] - 1));
        } else {
            splits.remove(splits.size() - 1);
            closeInnermost();
        }
    }

    /** Whether a solution is in the branch, or in a case two that is to come. */
    private boolean isOpen(int code) {
        for (int[] s : splits) {
            boolean inCaseOne = valueIn(code, s[0]) <= s[1];
            if (s[2] == 1 && !inCaseOne) {
                return true;
            }
            if (s[2] == 2 && inCaseOne) {
                return false;
            }
        }
        return true;
    }

    int finish() {
        if (whole) {
            return -1;
        }
        for (int code : all()) {
            if (isOpen(code)) {
                return 0;
            }
        }
        if (!splits.isEmpty()) {
            keepLines(splits.get(0)[3]);
        }
        splits.clear();
        whole = true;
        return 1;
    }

    int lines() {
        return lines.size();
    }

    long line(int i, int what) {
        return in(i, 0, lines.size() - 1) && in(what, 0, 4) ? lines.get(i)[what] : Long.MIN_VALUE;
    }

    int ofSplit(int k, int what) {
        return in(k, 0, splits.size() - 1) && in(what, 0, 3) ? splits.get(k)[what] : Integer.MIN_VALUE;
    }

    int count(int what) {
        int[] answers = {rows.size(), layers.size(), whole ? 1 : 0, splits.size(), closings};
        return in(what, 0, 4) ? answers[what] : -1;
    }
}
