/** Promises 1 to 5: a new object, row, push, pop, ofRow. */
public final class RowsTest {
    private static final int BIG = Integer.MAX_VALUE;
    private static final int SMALL = Integer.MIN_VALUE;

    public static void main(String[] args) {
        Due.watch();
        aNewObjectIsEmpty();
        rowsAreNumberedAndKept();
        rowsHaveEdges();
        wrongRowsChangeNothing();
        sixteenRowsAreAll();
        layersAreCounted();
        popDropsTheRowsOfALayer();
        ofRowKnowsItsEdges();
        changesOfRowsEmptyTheLog();
        refusedChangesKeepTheLog();
        objectsAreApart();
        Due.end();
    }

    private static void aNewObjectIsEmpty() {
        BoxProver x = new BoxProver();
        for (int what = 0; what <= 4; what++) {
            Due.is("1: count(" + what + ")", x.count(what), 0);
        }
        Due.is("1: lines()", x.lines(), 0);
        Due.is("1: ofRow(0, 0)", x.ofRow(0, 0), Due.NO_INT);
        Due.is("1: line(0, 0)", x.line(0, 0), Due.NO_LONG);
        Due.is("1: ofSplit(0, 0)", x.ofSplit(0, 0), Due.NO_INT);
        Due.is("1: pop()", x.pop(), BoxProver.NONE);
        Due.is("1: NONE", BoxProver.NONE, -1);
    }

    private static void rowsAreNumberedAndKept() {
        BoxProver x = new BoxProver();
        Due.is("2: first row", x.row(0, 1, -2, 3, -4, 5), 0);
        Due.is("2: second row", x.row(1, -6, 7, -8, 9, -10), 1);
        int[][] want = {{0, 1, -2, 3, -4, 5}, {1, -6, 7, -8, 9, -10}};
        for (int i = 0; i < 2; i++) {
            for (int what = 0; what < 6; what++) {
                Due.is("5: ofRow(" + i + ", " + what + ")", x.ofRow(i, what), want[i][what]);
            }
        }
        Due.is("20: count(0)", x.count(0), 2);
    }

    private static void rowsHaveEdges() {
        BoxProver x = new BoxProver();
        Due.is("2: greatest", x.row(1, 99, 99, 99, 99, 9999), 0);
        Due.is("2: least", x.row(0, -99, -99, -99, -99, -9999), 1);
        Due.is("5: greatest number", x.ofRow(0, 4), 99);
        Due.is("5: greatest bound", x.ofRow(0, 5), 9999);
        Due.is("5: least number", x.ofRow(1, 1), -99);
        Due.is("5: least bound", x.ofRow(1, 5), -9999);
    }

    private static void wrongRowsChangeNothing() {
        BoxProver x = new BoxProver();
        for (int wrong : new int[] {-1, 2, BIG, SMALL}) {
            Due.is("2: kind " + wrong, x.row(wrong, 0, 0, 0, 0, 0), BoxProver.NONE);
        }
        for (int wrong : new int[] {-100, 100, BIG, SMALL}) {
            Due.is("2: c0 " + wrong, x.row(1, wrong, 0, 0, 0, 0), BoxProver.NONE);
            Due.is("2: c1 " + wrong, x.row(1, 0, wrong, 0, 0, 0), BoxProver.NONE);
            Due.is("2: c2 " + wrong, x.row(1, 0, 0, wrong, 0, 0), BoxProver.NONE);
            Due.is("2: c3 " + wrong, x.row(1, 0, 0, 0, wrong, 0), BoxProver.NONE);
        }
        for (int wrong : new int[] {-10000, 10000, BIG, SMALL}) {
            Due.is("2: bound " + wrong, x.row(0, 0, 0, 0, 0, wrong), BoxProver.NONE);
        }
        Due.is("2: no row came", x.count(0), 0);
    }

    private static void sixteenRowsAreAll() {
        BoxProver x = new BoxProver();
        for (int i = 0; i < 16; i++) {
            Due.is("2: row " + i, x.row(1, i, 0, 0, 0, 9000 + i), i);
        }
        Due.is("2: row 16", x.row(1, 0, 0, 0, 0, 0), BoxProver.NONE);
        Due.is("20: rows", x.count(0), 16);
        Due.is("5: ofRow(15, 1)", x.ofRow(15, 1), 15);
        Due.is("5: ofRow(15, 5)", x.ofRow(15, 5), 9015);
        Due.is("5: ofRow(16, 0)", x.ofRow(16, 0), Due.NO_INT);
        Due.is("10: assume(15)", x.assume(15, false), 0);
        Due.is("6: decide() with 16 rows", x.decide(), true);
    }

    private static void layersAreCounted() {
        BoxProver x = new BoxProver();
        for (int i = 1; i <= 8; i++) {
            Due.is("3: push", x.push(), i);
            Due.is("20: layers", x.count(1), i);
        }
        Due.is("3: ninth push", x.push(), BoxProver.NONE);
        Due.is("20: layers", x.count(1), 8);
        for (int i = 7; i >= 0; i--) {
            Due.is("4: pop of an empty layer", x.pop(), 0);
            Due.is("20: layers", x.count(1), i);
        }
        Due.is("4: pop without a layer", x.pop(), BoxProver.NONE);
        Due.is("20: layers", x.count(1), 0);
        Due.is("3: push again", x.push(), 1);
    }

    private static void popDropsTheRowsOfALayer() {
        BoxProver x = new BoxProver();
        x.row(1, 1, 0, 0, 0, 10);
        x.push();
        x.row(1, 2, 0, 0, 0, 20);
        x.row(1, 3, 0, 0, 0, 30);
        x.push();
        x.push();
        x.row(1, 4, 0, 0, 0, 40);
        Due.is("4: pop", x.pop(), 1);
        Due.is("20: rows", x.count(0), 3);
        Due.is("5: gone row", x.ofRow(3, 0), Due.NO_INT);
        Due.is("4: pop", x.pop(), 0);
        Due.is("2: row takes the place", x.row(0, 5, 0, 0, 0, 50), 3);
        Due.is("5: row in its place", x.ofRow(3, 1), 5);
        Due.is("4: pop", x.pop(), 3);
        Due.is("20: rows", x.count(0), 1);
        Due.is("5: row from before", x.ofRow(0, 5), 10);
        Due.is("4: the first rows have no layer", x.pop(), BoxProver.NONE);
        Due.is("20: rows stay", x.count(0), 1);
    }

    private static void ofRowKnowsItsEdges() {
        BoxProver x = new BoxProver();
        x.row(1, 1, 2, 3, 4, 5);
        for (int wrong : new int[] {-1, 1, 15, 16, BIG, SMALL}) {
            Due.is("5: row " + wrong, x.ofRow(wrong, 0), Due.NO_INT);
        }
        for (int wrong : new int[] {-1, 6, BIG, SMALL}) {
            Due.is("5: what " + wrong, x.ofRow(0, wrong), Due.NO_INT);
        }
    }

    /** A whole log, and one with an open split, each with a closing and a line. */
    private static BoxProver withLog(boolean whole) {
        BoxProver x = new BoxProver();
        x.push();
        x.row(1, 0, 0, 0, 0, -1);
        x.bound(0, false);
        x.split(0, 0);
        x.assume(0, false);
        Due.is("15: case one closed", x.close(2), 1);
        if (whole) {
            x.assume(0, false);
            Due.is("15: case two closed", x.close(2), 0);
        }
        return x;
    }

    private static void logIsEmpty(String what, BoxProver x) {
        Due.is(what + ", lines()", x.lines(), 0);
        Due.is(what + ", whole", x.count(2), 0);
        Due.is(what + ", splits", x.count(3), 0);
        Due.is(what + ", closings", x.count(4), 0);
        Due.is(what + ", line(0, 0)", x.line(0, 0), Due.NO_LONG);
        Due.is(what + ", ofSplit(0, 0)", x.ofSplit(0, 0), Due.NO_INT);
        Due.is(what + ", a line comes", x.bound(1, false), 0);
    }

    private static void changesOfRowsEmptyTheLog() {
        for (int round = 0; round < 2; round++) {
            boolean whole = round == 0;
            BoxProver x = withLog(whole);
            x.row(1, 0, 0, 0, 0, 0);
            logIsEmpty("row", x);
            x = withLog(whole);
            x.push();
            logIsEmpty("push", x);
            x = withLog(whole);
            x.pop();
            logIsEmpty("pop", x);
        }
        BoxProver x = new BoxProver();
        x.push();
        x.bound(0, true);
        Due.is("4: pop of an empty layer", x.pop(), 0);
        logIsEmpty("pop of an empty layer", x);
    }

    private static void refusedChangesKeepTheLog() {
        BoxProver x = new BoxProver();
        x.bound(0, false);
        x.split(1, 2);
        x.pop();
        x.row(2, 0, 0, 0, 0, 0);
        x.row(1, 100, 0, 0, 0, 0);
        x.row(1, 0, 0, 0, 0, -10000);
        Due.is("lines stay", x.lines(), 2);
        Due.is("splits stay", x.count(3), 1);
        x = new BoxProver();
        for (int i = 0; i < 8; i++) {
            x.push();
        }
        for (int i = 0; i < 16; i++) {
            x.row(1, 0, 0, 0, 0, -1);
        }
        x.assume(3, false);
        x.close(0);
        x.push();
        x.row(1, 0, 0, 0, 0, 0);
        Due.is("lines stay", x.lines(), 1);
        Due.is("whole stays", x.count(2), 1);
        Due.is("closings stay", x.count(4), 1);
    }

    private static void objectsAreApart() {
        BoxProver x = new BoxProver();
        BoxProver y = new BoxProver();
        x.push();
        x.row(1, 1, 0, 0, 0, -15);
        x.bound(0, false);
        x.split(0, 0);
        Due.is("1: rows of another", y.count(0), 0);
        Due.is("1: layers of another", y.count(1), 0);
        Due.is("1: splits of another", y.count(3), 0);
        Due.is("1: lines of another", y.lines(), 0);
        Due.is("1: solutions of another", y.solutions(), 923521);
        Due.is("8: solutions", x.solutions(), 29791);
    }
}
