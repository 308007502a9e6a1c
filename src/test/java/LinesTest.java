/** Promises 10 to 13, 17 and 18: assume, bound, add, divide, lines, line. */
public final class LinesTest {
    private static final int BIG = Integer.MAX_VALUE;
    private static final int SMALL = Integer.MIN_VALUE;
    private static final long NUMBER_MOST = 1_000_000_000L;
    private static final long BOUND_MOST = 1_000_000_000_000L;

    public static void main(String[] args) {
        Due.watch();
        assumeTakesRows();
        assumeRefuses();
        boundTakesWords();
        addMakesSums();
        addRefuses();
        numbersHaveEdges();
        boundsHaveEdges();
        divideRoundsDown();
        divideRefuses();
        twoHundredLinesAreAll();
        aWholeLogTakesNone();
        lineKnowsItsEdges();
        Due.end();
    }

    private static void lineIs(BoxProver x, int i, long c0, long c1, long c2, long c3, long bound) {
        long[] want = {c0, c1, c2, c3, bound};
        for (int what = 0; what < 5; what++) {
            Due.is("18: line(" + i + ", " + what + ")", x.line(i, what), want[what]);
        }
    }

    private static void assumeTakesRows() {
        BoxProver x = new BoxProver();
        x.row(0, 1, -2, 3, -4, 5);
        x.row(1, -99, 99, 0, 7, -9999);
        Due.is("10: a row of kind 0", x.assume(0, false), 0);
        Due.is("10: turned", x.assume(0, true), 1);
        Due.is("10: a row of kind 1", x.assume(1, false), 2);
        Due.is("10: once more", x.assume(0, false), 3);
        lineIs(x, 0, 1, -2, 3, -4, 5);
        lineIs(x, 1, -1, 2, -3, 4, -5);
        lineIs(x, 2, -99, 99, 0, 7, -9999);
        lineIs(x, 3, 1, -2, 3, -4, 5);
        Due.is("17: lines()", x.lines(), 4);
        Due.is("20: rows stay", x.count(0), 2);
    }

    private static void assumeRefuses() {
        BoxProver x = new BoxProver();
        Due.is("10: no rows", x.assume(0, false), BoxProver.NONE);
        x.row(1, 1, 1, 1, 1, 1);
        Due.is("10: kind 1 turned", x.assume(0, true), BoxProver.NONE);
        for (int wrong : new int[] {-1, 1, 16, BIG, SMALL}) {
            Due.is("10: row " + wrong, x.assume(wrong, false), BoxProver.NONE);
            Due.is("10: row " + wrong + " turned", x.assume(wrong, true), BoxProver.NONE);
        }
        Due.is("17: no line came", x.lines(), 0);
    }

    private static void boundTakesWords() {
        BoxProver x = new BoxProver();
        for (int w = 0; w < 4; w++) {
            Due.is("11: upper", x.bound(w, false), 2 * w);
            Due.is("11: lower", x.bound(w, true), 2 * w + 1);
        }
        lineIs(x, 0, 1, 0, 0, 0, 15);
        lineIs(x, 1, -1, 0, 0, 0, 15);
        lineIs(x, 2, 0, 1, 0, 0, 15);
        lineIs(x, 3, 0, -1, 0, 0, 15);
        lineIs(x, 4, 0, 0, 1, 0, 15);
        lineIs(x, 5, 0, 0, -1, 0, 15);
        lineIs(x, 6, 0, 0, 0, 1, 15);
        lineIs(x, 7, 0, 0, 0, -1, 15);
        for (int wrong : new int[] {-1, 4, BIG, SMALL}) {
            Due.is("11: word " + wrong, x.bound(wrong, false), BoxProver.NONE);
            Due.is("11: word " + wrong + " lower", x.bound(wrong, true), BoxProver.NONE);
        }
        Due.is("17: lines()", x.lines(), 8);
    }

    private static BoxProver twoLines() {
        BoxProver x = new BoxProver();
        x.row(1, 1, -2, 3, 0, 10);
        x.row(1, -3, 5, 0, 7, -20);
        x.assume(0, false);
        x.assume(1, false);
        return x;
    }

    private static void addMakesSums() {
        BoxProver x = twoLines();
        Due.is("12: add", x.add(0, 2, 1, 3), 2);
        lineIs(x, 2, -7, 11, 6, 21, -40);
        Due.is("12: of one line", x.add(1, 1, 1, 1), 3);
        lineIs(x, 3, -6, 10, 0, 14, -40);
        Due.is("12: times 0", x.add(0, 0, 1, 0), 4);
        lineIs(x, 4, 0, 0, 0, 0, 0);
        Due.is("12: times 1000", x.add(0, 1000, 1, 0), 5);
        lineIs(x, 5, 1000, -2000, 3000, 0, 10000);
        Due.is("12: times 1000, the other", x.add(0, 0, 1, 1000), 6);
        lineIs(x, 6, -3000, 5000, 0, 7000, -20000);
        Due.is("12: the other way round", x.add(1, 3, 0, 2), 7);
        lineIs(x, 7, -7, 11, 6, 21, -40);
        lineIs(x, 0, 1, -2, 3, 0, 10);
        lineIs(x, 1, -3, 5, 0, 7, -20);
    }

    private static void addRefuses() {
        BoxProver x = twoLines();
        for (int wrong : new int[] {-1, 2, 199, 200, BIG, SMALL}) {
            Due.is("12: line a " + wrong, x.add(wrong, 1, 0, 1), BoxProver.NONE);
            Due.is("12: line b " + wrong, x.add(0, 1, wrong, 1), BoxProver.NONE);
            Due.is("12: line a " + wrong + " times 0", x.add(wrong, 0, 0, 1), BoxProver.NONE);
            Due.is("12: line b " + wrong + " times 0", x.add(0, 1, wrong, 0), BoxProver.NONE);
        }
        for (int wrong : new int[] {-1, 1001, BIG, SMALL}) {
            Due.is("12: m " + wrong, x.add(0, wrong, 1, 1), BoxProver.NONE);
            Due.is("12: n " + wrong, x.add(0, 1, 1, wrong), BoxProver.NONE);
        }
        Due.is("17: no line came", x.lines(), 2);
    }

    /** Numbers up to 10^9 of either sign, in each of the words. */
    private static void numbersHaveEdges() {
        for (int w = 0; w < 4; w++) {
            for (int sign = -1; sign <= 1; sign += 2) {
                BoxProver x = new BoxProver();
                x.row(1, w == 0 ? sign : 0, w == 1 ? sign : 0, w == 2 ? sign : 0, w == 3 ? sign : 0, 0);
                x.assume(0, false);
                x.add(0, 1000, 0, 0);
                x.add(1, 1000, 0, 0);
                Due.is("12: up to 10^9", x.add(2, 999, 1, 1000), 3);
                Due.is("18: the greatest", x.line(3, w), sign * NUMBER_MOST);
                Due.is("12: 10^9 once more", x.add(2, 1000, 0, 0), 4);
                Due.is("12: one more", x.add(3, 1, 0, 1), BoxProver.NONE);
                Due.is("12: twice as much", x.add(3, 1, 3, 1), BoxProver.NONE);
                Due.is("12: far more", x.add(3, 1000, 3, 1000), BoxProver.NONE);
                Due.is("17: lines()", x.lines(), 5);
            }
        }
    }

    private static void boundsHaveEdges() {
        for (int sign = -1; sign <= 1; sign += 2) {
            BoxProver x = new BoxProver();
            x.row(1, 0, 0, 0, 0, sign * 1000);
            x.row(1, 0, 0, 0, 0, sign);
            x.assume(0, false);
            x.assume(1, false);
            x.add(0, 1000, 1, 0);
            x.add(2, 1000, 1, 0);
            Due.is("12: up to 10^12", x.add(3, 1000, 1, 0), 4);
            Due.is("18: the greatest bound", x.line(4, 4), sign * BOUND_MOST);
            Due.is("12: one more", x.add(4, 1, 1, 1), BoxProver.NONE);
            Due.is("12: one more, the other way", x.add(1, 1, 4, 1), BoxProver.NONE);
            Due.is("12: far more", x.add(4, 1000, 4, 1000), BoxProver.NONE);
            Due.is("17: lines()", x.lines(), 5);
            Due.is("13: over 10^9", x.divide(4, 1_000_000_000), 5);
            Due.is("18: over 10^9", x.line(5, 4), sign * 1000L);
        }
    }

    private static void divideRoundsDown() {
        BoxProver x = new BoxProver();
        x.row(1, 6, -12, 0, 18, 17);
        x.row(1, 6, -12, 0, 18, -17);
        x.row(1, 6, -12, 0, 18, -18);
        x.row(1, 0, 0, 0, 0, -1);
        x.row(1, 0, 0, 0, 0, 1);
        for (int i = 0; i < 5; i++) {
            x.assume(i, false);
        }
        Due.is("13: divide", x.divide(0, 6), 5);
        lineIs(x, 5, 1, -2, 0, 3, 2);
        Due.is("13: below 0", x.divide(1, 6), 6);
        lineIs(x, 6, 1, -2, 0, 3, -3);
        Due.is("13: without a rest", x.divide(2, 6), 7);
        lineIs(x, 7, 1, -2, 0, 3, -3);
        Due.is("13: by 1", x.divide(0, 1), 8);
        lineIs(x, 8, 6, -12, 0, 18, 17);
        Due.is("13: by 2", x.divide(1, 2), 9);
        lineIs(x, 9, 3, -6, 0, 9, -9);
        Due.is("13: zeros by the greatest", x.divide(3, 1_000_000_000), 10);
        lineIs(x, 10, 0, 0, 0, 0, -1);
        Due.is("13: zeros by the greatest", x.divide(4, 1_000_000_000), 11);
        lineIs(x, 11, 0, 0, 0, 0, 0);
        lineIs(x, 0, 6, -12, 0, 18, 17);
    }

    private static void divideRefuses() {
        BoxProver x = new BoxProver();
        x.row(1, 0, 0, 0, 0, 8);
        x.row(1, 9, 6, 6, 6, 6);
        x.row(1, 6, 9, 6, 6, 6);
        x.row(1, 6, 6, -9, 6, 6);
        x.row(1, 6, 6, 6, 9, 6);
        for (int i = 0; i < 5; i++) {
            x.assume(i, false);
        }
        for (int wrong : new int[] {0, -1, -6, 1_000_000_001, BIG, SMALL}) {
            Due.is("13: d " + wrong, x.divide(0, wrong), BoxProver.NONE);
        }
        for (int i = 1; i < 5; i++) {
            Due.is("13: a number of line " + i, x.divide(i, 6), BoxProver.NONE);
        }
        for (int wrong : new int[] {-1, 5, 200, BIG, SMALL}) {
            Due.is("13: line " + wrong, x.divide(wrong, 1), BoxProver.NONE);
        }
        Due.is("17: no line came", x.lines(), 5);
        Due.is("13: by 3", x.divide(3, 3), 5);
        lineIs(x, 5, 2, 2, -3, 2, 2);
    }

    private static void twoHundredLinesAreAll() {
        BoxProver x = new BoxProver();
        x.row(0, 0, 0, 0, 0, -1);
        for (int i = 0; i < 199; i++) {
            Due.is("11: line " + i, x.bound(i % 4, false), i);
        }
        Due.is("10: the last line", x.assume(0, false), 199);
        lineIs(x, 199, 0, 0, 0, 0, -1);
        Due.is("10: assume when full", x.assume(0, false), BoxProver.NONE);
        Due.is("10: assume turned when full", x.assume(0, true), BoxProver.NONE);
        Due.is("11: bound when full", x.bound(0, true), BoxProver.NONE);
        Due.is("12: add when full", x.add(0, 1, 1, 1), BoxProver.NONE);
        Due.is("13: divide when full", x.divide(0, 1), BoxProver.NONE);
        Due.is("14: split when full", x.split(0, 0), BoxProver.NONE);
        Due.is("20: no split came", x.count(3), 0);
        Due.is("17: lines()", x.lines(), 200);
        lineIs(x, 198, 0, 0, 1, 0, 15);
        Due.is("15: close when full", x.close(199), 0);
        Due.is("17: lines stay", x.lines(), 200);
        Due.is("20: whole", x.count(2), 1);
    }

    private static void aWholeLogTakesNone() {
        BoxProver x = new BoxProver();
        x.row(0, 0, 0, 0, 0, -1);
        x.assume(0, false);
        x.close(0);
        Due.is("10: assume when whole", x.assume(0, false), BoxProver.NONE);
        Due.is("11: bound when whole", x.bound(0, false), BoxProver.NONE);
        Due.is("12: add when whole", x.add(0, 1, 0, 1), BoxProver.NONE);
        Due.is("13: divide when whole", x.divide(0, 1), BoxProver.NONE);
        Due.is("14: split when whole", x.split(0, 0), BoxProver.NONE);
        Due.is("15: close when whole", x.close(0), BoxProver.NONE);
        Due.is("16: finish when whole", x.finish(), BoxProver.NONE);
        Due.is("17: lines()", x.lines(), 1);
        Due.is("20: splits", x.count(3), 0);
        Due.is("20: closings", x.count(4), 1);
        lineIs(x, 0, 0, 0, 0, 0, -1);
    }

    private static void lineKnowsItsEdges() {
        BoxProver x = twoLines();
        for (int wrong : new int[] {-1, 2, 199, 200, BIG, SMALL}) {
            Due.is("18: line " + wrong, x.line(wrong, 0), Due.NO_LONG);
        }
        for (int wrong : new int[] {-1, 5, BIG, SMALL}) {
            Due.is("18: what " + wrong, x.line(1, wrong), Due.NO_LONG);
        }
    }
}
