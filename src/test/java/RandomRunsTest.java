import java.util.Random;

/** All promises: runs of calls by a fixed seed, each answer and all that can be seen compared with the plain model. */
public final class RandomRunsTest {
    private static final int RUNS = 75;
    private static final int CALLS = 500;

    private final Random random;
    private final BoxProver x = new BoxProver();
    private final PlainModel m = new PlainModel();
    private final String name;
    /** How wide the numbers of this run's rows are, and how often the rows change. */
    private final int width;
    private final int change;

    private RandomRunsTest(int seed) {
        random = new Random(seed);
        name = "run " + seed + ": ";
        width = new int[] {1, 2, 5, 20, 99}[seed % 5];
        change = new int[] {3, 10, 40}[seed % 3];
    }

    public static void main(String[] args) {
        Due.watch();
        for (int seed = 0; seed < RUNS; seed++) {
            new RandomRunsTest(seed).run();
        }
        Due.end();
    }

    private void run() {
        for (int i = 0; i < CALLS; i++) {
            if (random.nextInt(100) < change) {
                changeRows();
            } else {
                workOnLog();
            }
            if (random.nextInt(12) == 0) {
                compareAnswers();
            }
            compareLog();
        }
        compareAnswers();
        compareAll();
    }

    private int upTo(int most) {
        return random.nextInt(2 * most + 1) - most;
    }

    private int factor() {
        return random.nextInt(3) == 0 ? 0 : random.nextInt(300) == 0 ? upTo(101) : upTo(width);
    }

    private void changeRows() {
        int which = random.nextInt(10);
        if (which < 3) {
            Due.is(name + "push()", x.push(), m.push());
        } else if (which < 5) {
            Due.is(name + "pop()", x.pop(), m.pop());
        } else {
            newRow();
        }
    }

    private void newRow() {
        int kind = random.nextInt(200) == 0 ? upTo(3) : random.nextInt(3) == 0 ? 0 : 1;
        int[] c = {factor(), factor(), factor(), factor()};
        if (random.nextInt(15) == 0) {
            c = new int[4];
        }
        // Bounds near those that decide: where the sums of solutions lie, or at their ends.
        int sum = 0;
        for (int w = 0; w < 4; w++) {
            sum += c[w] * upTo(15);
        }
        int bound = random.nextInt(200) == 0 ? upTo(10002) : random.nextInt(4) == 0 ? sum + upTo(width * 3) : sum;
        Due.is(name + "row", x.row(kind, c[0], c[1], c[2], c[3], bound), m.row(kind, c[0], c[1], c[2], c[3], bound));
    }

    private int anyLine() {
        int many = m.lines();
        int from = random.nextBoolean() ? Math.max(0, many - 4) : 0;
        return random.nextInt(40) == 0 ? upTo(202) : from + random.nextInt(many - from + 1) - random.nextInt(2);
    }

    private int anyWord() {
        return random.nextInt(40) == 0 ? upTo(5) : random.nextInt(4);
    }

    private int anyTimes() {
        return random.nextInt(10) == 0 ? upTo(1002) : random.nextInt(6);
    }

    private void workOnLog() {
        int which = random.nextInt(24);
        if (which < 3) {
            int row = random.nextInt(18) - 1;
            boolean turned = random.nextBoolean();
            Due.is(name + "assume", x.assume(row, turned), m.assume(row, turned));
        } else if (which < 6) {
            int word = anyWord();
            boolean lower = random.nextBoolean();
            Due.is(name + "bound", x.bound(word, lower), m.bound(word, lower));
        } else if (which < 11) {
            int a = anyLine();
            int b = anyLine();
            int times = anyTimes();
            int otherTimes = anyTimes();
            Due.is(name + "add", x.add(a, times, b, otherTimes), m.add(a, times, b, otherTimes));
        } else if (which < 13) {
            int a = anyLine();
            int d = random.nextInt(8) == 0 ? upTo(1_000_000_003) : random.nextInt(9);
            Due.is(name + "divide", x.divide(a, d), m.divide(a, d));
        } else if (which < 17) {
            int word = anyWord();
            int k = random.nextInt(40) == 0 ? upTo(18) : upTo(15);
            Due.is(name + "split", x.split(word, k), m.split(word, k));
        } else if (which < 19) {
            int line = anyLine();
            Due.is(name + "close", x.close(line), m.close(line));
        } else if (which < 23) {
            closeIfThatIsNear();
        } else if (random.nextInt(3) == 0) {
            Due.is(name + "finish()", x.finish(), m.finish());
        }
    }

    /** Looks for a row, or two lines added, that close the branch; by chance that comes too seldom. */
    private void closeIfThatIsNear() {
        for (int i = 0; i < m.count(0); i++) {
            if (isZero(i) && m.ofRow(i, 5) < 0) {
                closeBy(x.assume(i, false), m.assume(i, false));
                return;
            }
        }
        int many = m.lines();
        for (int tries = 0; tries < 50 && many > 0; tries++) {
            int a = random.nextInt(many);
            int b = random.nextInt(many);
            if (cancels(a, b)) {
                closeBy(x.add(a, 1, b, 1), m.add(a, 1, b, 1));
                return;
            }
        }
    }

    private boolean isZero(int row) {
        return m.ofRow(row, 1) == 0 && m.ofRow(row, 2) == 0 && m.ofRow(row, 3) == 0 && m.ofRow(row, 4) == 0;
    }

    private boolean cancels(int a, int b) {
        for (int w = 0; w < 4; w++) {
            if (m.line(a, w) + m.line(b, w) != 0) {
                return false;
            }
        }
        return m.line(a, 4) + m.line(b, 4) < 0;
    }

    private void closeBy(int got, int want) {
        Due.is(name + "a line to close by", got, want);
        Due.is(name + "close", x.close(got), m.close(want));
    }

    private void compareAnswers() {
        if (random.nextBoolean()) {
            Due.is(name + "decide()", x.decide(), m.decide());
            for (int v = -1; v <= 4; v++) {
                Due.is(name + "first(" + v + ")", x.first(v), m.first(v));
            }
        }
        int w = anyWord();
        Due.is(name + "range(" + w + ", false)", x.range(w, false), m.range(w, false));
        Due.is(name + "range(" + w + ", true)", x.range(w, true), m.range(w, true));
        Due.is(name + "solutions()", x.solutions(), m.solutions());
        Due.is(name + "decide()", x.decide(), m.decide());
        Due.is(name + "first(3)", x.first(3), m.first(3));
    }

    private void compareLog() {
        for (int what = -1; what <= 5; what++) {
            Due.is(name + "count(" + what + ")", x.count(what), m.count(what));
        }
        Due.is(name + "lines()", x.lines(), m.lines());
        for (int what = -1; what <= 5; what++) {
            int last = m.lines() - 1;
            Due.is(name + "line(" + last + ", " + what + ")", x.line(last, what), m.line(last, what));
        }
        if (random.nextInt(50) == 0) {
            compareAll();
        }
    }

    private void compareAll() {
        for (int i = -1; i <= 200; i++) {
            for (int what = -1; what <= 6; what++) {
                Due.is(name + "line(" + i + ", " + what + ")", x.line(i, what), m.line(i, what));
                if (i <= 16) {
                    Due.is(name + "ofRow(" + i + ", " + what + ")", x.ofRow(i, what), m.ofRow(i, what));
                    Due.is(name + "ofSplit(" + i + ", " + what + ")", x.ofSplit(i, what), m.ofSplit(i, what));
                }
            }
        }
    }
}
