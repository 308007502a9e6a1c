/** A BoxProver that no test asks more often than the document promises answers for. */
final class Asked {
    static final int MOST_CALLS = 512;

    private final BoxProver x = new BoxProver();
    private int calls = 0;

    private BoxProver next() {
        calls++;
        if (calls > MOST_CALLS) {
            throw new IllegalStateException("a test asks one object more than 512 times");
        }
        return x;
    }

    int calls() {
        return calls;
    }

    int row(int kind, int c0, int c1, int c2, int c3, int bound) {
        return next().row(kind, c0, c1, c2, c3, bound);
    }

    int push() {
        return next().push();
    }

    int pop() {
        return next().pop();
    }

    int ofRow(int i, int what) {
        return next().ofRow(i, what);
    }

    boolean decide() {
        return next().decide();
    }

    int first(int word) {
        return next().first(word);
    }

    int solutions() {
        return next().solutions();
    }

    int range(int word, boolean most) {
        return next().range(word, most);
    }

    int assume(int row, boolean turned) {
        return next().assume(row, turned);
    }

    int bound(int word, boolean lower) {
        return next().bound(word, lower);
    }

    int add(int a, int m, int b, int n) {
        return next().add(a, m, b, n);
    }

    int divide(int a, int d) {
        return next().divide(a, d);
    }

    int split(int word, int k) {
        return next().split(word, k);
    }

    int close(int line) {
        return next().close(line);
    }

    int finish() {
        return next().finish();
    }

    int lines() {
        return next().lines();
    }

    long line(int i, int what) {
        return next().line(i, what);
    }

    int ofSplit(int k, int what) {
        return next().ofSplit(k, what);
    }

    int count(int what) {
        return next().count(what);
    }
}
