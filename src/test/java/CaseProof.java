/**
 * Proves by an object's own lines that its rows can't hold together: a row and the words' bounds added,
 * divided with rounding, and by cases. It goes as far as there are calls, lines and splits for it.
 */
final class CaseProof {
    private static final int MOST_CALLS = 400;
    private static final int MOST_SPLITS = 10;
    /** A step needs a row, three bounds and a division, or a row, four bounds and a split. */
    private static final int MOST_LINES = 200 - 6;

    private final Asked x;
    private final int[][] rows;
    /** Whether it divides no more once there is a split, which makes more of them. */
    private final boolean casesAlone;
    /** For each open split whether it is in its case two. */
    private final boolean[] inCaseTwo = new boolean[MOST_SPLITS];
    private int splits = 0;
    private int closings = 0;
    private int divisions = 0;
    /** How many lines were there before the outermost split that is open. */
    private int outside = 0;
    private boolean givenUp = false;

    /** What is known of the words in a branch, and which lines say so. */
    private static final class Box {
        final int[] least = new int[4];
        final int[] most = new int[4];
        final int[] leastLine = new int[4];
        final int[] mostLine = new int[4];

        Box copy() {
            Box box = new Box();
            for (int w = 0; w < 4; w++) {
                box.least[w] = least[w];
                box.most[w] = most[w];
                box.leastLine[w] = leastLine[w];
                box.mostLine[w] = mostLine[w];
            }
            return box;
        }
    }

    CaseProof(Asked x, int[][] rows, boolean casesAlone) {
        this.x = x;
        this.rows = rows;
        this.casesAlone = casesAlone;
    }

    int closings() {
        return closings;
    }

    int divisions() {
        return divisions;
    }

    int splits() {
        return splits;
    }

    int outside() {
        return outside;
    }

    /** Whether the first branch was closed by it. */
    boolean go() {
        Box box = new Box();
        for (int w = 0; w < 4; w++) {
            box.least[w] = -15;
            box.most[w] = 15;
            box.leastLine[w] = x.bound(w, true);
            box.mostLine[w] = x.bound(w, false);
        }
        closeBranch(box);
        return !givenUp;
    }

    /** Closes the branch that is open, or gives up. */
    private void closeBranch(Box box) {
        while (!givenUp) {
            if (x.calls() > MOST_CALLS || x.lines() > MOST_LINES) {
                givenUp = true;
            } else if (closesByARow(box)) {
                return;
            } else if (splits > 0 && casesAlone || !narrows(box)) {
                closeByCases(box);
                return;
            }
        }
    }

    /** A row of kind 0 can be turned, one of kind 1 not. */
    private int lastSign(int row) {
        return rows[row][0] == 0 ? -1 : 1;
    }

    /** The least sum that a side of a row has in the box without one word (-1: with all). */
    private int leastSum(Box box, int row, int sign, int without) {
        int sum = 0;
        for (int w = 0; w < 4; w++) {
            int c = sign * rows[row][1 + w];
            if (w != without) {
                sum += c * (c > 0 ? box.least[w] : box.most[w]);
            }
        }
        return sum;
    }

    /** The row's line, and the bounds added to it so that all words but one are gone from it. */
    private int lineWithout(Box box, int row, int sign, int kept) {
        int line = x.assume(row, sign < 0);
        for (int w = 0; w < 4; w++) {
            int c = sign * rows[row][1 + w];
            if (w != kept && c != 0) {
                line = x.add(line, 1, c > 0 ? box.leastLine[w] : box.mostLine[w], Math.abs(c));
            }
        }
        return line;
    }

    private boolean closesByARow(Box box) {
        for (int r = 0; r < rows.length; r++) {
            for (int sign = 1; sign >= lastSign(r); sign -= 2) {
                if (leastSum(box, r, sign, -1) > sign * rows[r][5]) {
                    int line = lineWithout(box, r, sign, -1);
                    closings++;
                    Due.is("15: splits that are open then", x.close(line), splitsWhenClosed());
                    return true;
                }
            }
        }
        return false;
    }

    private int splitsWhenClosed() {
        int open = splits;
        while (open > 0 && inCaseTwo[open - 1]) {
            open--;
        }
        return open;
    }

    /** Bounds one word better than it is, by a row over that word's number in it. */
    private boolean narrows(Box box) {
        for (int r = 0; r < rows.length; r++) {
            for (int sign = 1; sign >= lastSign(r); sign -= 2) {
                for (int w = 0; w < 4; w++) {
                    if (narrowsBy(box, r, sign, w)) {
                        return true;
                    }
                }
            }
        }
        return false;
    }

    private boolean narrowsBy(Box box, int row, int sign, int w) {
        int c = sign * rows[row][1 + w];
        int rest = sign * rows[row][5] - leastSum(box, row, sign, w);
        if (c == 0 || c * (c > 0 ? box.most[w] : box.least[w]) <= rest) {
            return false;
        }
        int line = x.divide(lineWithout(box, row, sign, w), Math.abs(c));
        divisions++;
        int bound = (int) x.line(line, 4);
        Due.is("18: the word's number", x.line(line, w), c > 0 ? 1 : -1);
        Due.is("13: rounded down", bound, Math.floorDiv(rest, Math.abs(c)));
        if (c > 0) {
            box.most[w] = bound;
            box.mostLine[w] = line;
        } else {
            box.least[w] = -bound;
            box.leastLine[w] = line;
        }
        return true;
    }

    private void closeByCases(Box box) {
        int word = widest(box);
        if (box.least[word] == box.most[word] || splits == MOST_SPLITS) {
            givenUp = true;
            return;
        }
        int k = Math.floorDiv(box.least[word] + box.most[word], 2);
        if (splits == 0) {
            outside = x.lines();
        }
        int before = x.lines();
        Box one = box.copy();
        one.most[word] = k;
        one.mostLine[word] = x.split(word, k);
        Due.is("14: the line of case one", one.mostLine[word], before);
        inCaseTwo[splits] = false;
        splits++;
        closeBranch(one);
        if (givenUp) {
            return;
        }
        inCaseTwo[splits - 1] = true;
        Box two = box.copy();
        two.least[word] = k + 1;
        two.leastLine[word] = x.lines() - 1;
        Due.is("15: the line of case two is the last", two.leastLine[word], before);
        closeBranch(two);
        if (!givenUp) {
            splits--;
        }
    }

    private static int widest(Box box) {
        int best = 0;
        for (int w = 1; w < 4; w++) {
            if (box.most[w] - box.least[w] > box.most[best] - box.least[best]) {
                best = w;
            }
        }
        return best;
    }
}
