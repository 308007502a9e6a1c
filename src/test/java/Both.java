/** An object and the plain model beside it: each call is made of both, and its answers compared. */
final class Both {
    private final String name;
    private final Asked x = new Asked();
    private final PlainModel m = new PlainModel();

    Both(String name) {
        this.name = name;
    }

    /** How many calls the object may still be asked. */
    int left() {
        return Asked.MOST_CALLS - x.calls();
    }

    private int same(String call, int got, int want) {
        Due.is(name + ", call " + x.calls() + ": " + call, got, want);
        return got;
    }

    int row(int kind, int c0, int c1, int c2, int c3, int bound) {
        return same("row", x.row(kind, c0, c1, c2, c3, bound), m.row(kind, c0, c1, c2, c3, bound));
    }

    int push() {
        return same("push", x.push(), m.push());
    }

    int pop() {
        return same("pop", x.pop(), m.pop());
    }

    int ofRow(int i, int what) {
        return same("ofRow", x.ofRow(i, what), m.ofRow(i, what));
    }

    boolean decide() {
        return same("decide", x.decide() ? 1 : 0, m.decide() ? 1 : 0) == 1;
    }

    int first(int word) {
        return same("first", x.first(word), m.first(word));
    }

    int solutions() {
        return same("solutions", x.solutions(), m.solutions());
    }

    int range(int word, boolean most) {
        return same("range", x.range(word, most), m.range(word, most));
    }

    int assume(int row, boolean turned) {
        return same("assume", x.assume(row, turned), m.assume(row, turned));
    }

    int bound(int word, boolean lower) {
        return same("bound", x.bound(word, lower), m.bound(word, lower));
    }

    int add(int a, int m1, int b, int n) {
        return same("add", x.add(a, m1, b, n), m.add(a, m1, b, n));
    }

    int divide(int a, int d) {
        return same("divide", x.divide(a, d), m.divide(a, d));
    }

    int split(int word, int k) {
        return same("split", x.split(word, k), m.split(word, k));
    }

    int close(int line) {
        return same("close", x.close(line), m.close(line));
    }

    int finish() {
        return same("finish", x.finish(), m.finish());
    }

    int lines() {
        return same("lines", x.lines(), m.lines());
    }

    long line(int i, int what) {
        long got = x.line(i, what);
        Due.is(name + ", call " + x.calls() + ": line", got, m.line(i, what));
        return got;
    }

    int ofSplit(int k, int what) {
        return same("ofSplit", x.ofSplit(k, what), m.ofSplit(k, what));
    }

    int count(int what) {
        return same("count", x.count(what), m.count(what));
    }
}
