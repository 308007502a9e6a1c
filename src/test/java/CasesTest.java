/** Promises 14 to 16, 19 and 20: split, close, finish, ofSplit, count. */
public final class CasesTest {
    private static final int BIG = Integer.MAX_VALUE;
    private static final int SMALL = Integer.MIN_VALUE;

    public static void main(String[] args) {
        Due.watch();
        splitBeginsCaseOne();
        splitRefuses();
        tenSplitsAreAll();
        closeWithoutASplit();
        closeRefuses();
        closeGoesThroughTheCases();
        oneClosingMayCloseMany();
        aCaseOneStopsTheClosing();
        aSplitAtTheLastLine();
        aProofByCases();
        finishWithASolution();
        finishWithout();
        finishCutsAtTheOutermostSplit();
        finishWhenFull();
        countKnowsItsNumbers();
        Due.end();
    }

    private static void lineIs(BoxProver x, int i, long c0, long c1, long c2, long c3, long bound) {
        long[] want = {c0, c1, c2, c3, bound};
        for (int what = 0; what < 5; what++) {
            Due.is("18: line(" + i + ", " + what + ")", x.line(i, what), want[what]);
        }
    }

    private static void splitIs(BoxProver x, int i, int word, int k, int which, int before) {
        int[] want = {word, k, which, before};
        for (int what = 0; what < 4; what++) {
            Due.is("19: ofSplit(" + i + ", " + what + ")", x.ofSplit(i, what), want[what]);
        }
    }

    private static BoxProver impossible() {
        BoxProver x = new BoxProver();
        x.row(1, 0, 0, 0, 0, -1);
        return x;
    }

    private static int closeByTheRow(BoxProver x) {
        return x.close(x.assume(0, false));
    }

    private static void splitBeginsCaseOne() {
        BoxProver x = new BoxProver();
        x.bound(0, false);
        Due.is("14: split(2, 7)", x.split(2, 7), 1);
        lineIs(x, 1, 0, 0, 1, 0, 7);
        Due.is("14: split(3, -16)", x.split(3, -16), 2);
        lineIs(x, 2, 0, 0, 0, 1, -16);
        x.bound(1, true);
        Due.is("14: split(0, 15)", x.split(0, 15), 4);
        lineIs(x, 4, 1, 0, 0, 0, 15);
        splitIs(x, 0, 2, 7, 1, 1);
        splitIs(x, 1, 3, -16, 1, 2);
        splitIs(x, 2, 0, 15, 1, 4);
        Due.is("20: splits", x.count(3), 3);
        for (int wrong : new int[] {-1, 3, 10, BIG, SMALL}) {
            Due.is("19: split " + wrong, x.ofSplit(wrong, 0), Due.NO_INT);
        }
        for (int wrong : new int[] {-1, 4, BIG, SMALL}) {
            Due.is("19: what " + wrong, x.ofSplit(1, wrong), Due.NO_INT);
        }
    }

    private static void splitRefuses() {
        BoxProver x = new BoxProver();
        for (int wrong : new int[] {-1, 4, BIG, SMALL}) {
            Due.is("14: word " + wrong, x.split(wrong, 0), BoxProver.NONE);
        }
        for (int wrong : new int[] {-17, 16, BIG, SMALL}) {
            Due.is("14: k " + wrong, x.split(0, wrong), BoxProver.NONE);
        }
        Due.is("17: no line came", x.lines(), 0);
        Due.is("20: no split came", x.count(3), 0);
    }

    private static void tenSplitsAreAll() {
        BoxProver x = impossible();
        for (int i = 0; i < 10; i++) {
            Due.is("14: split " + i, x.split(i % 4, i - 5), i);
        }
        Due.is("14: split 10", x.split(0, 0), BoxProver.NONE);
        Due.is("20: splits", x.count(3), 10);
        Due.is("17: lines()", x.lines(), 10);
        for (int i = 0; i < 10; i++) {
            splitIs(x, i, i % 4, i - 5, 1, i);
        }
        Due.is("15: case two of the tenth", closeByTheRow(x), 10);
        Due.is("14: still ten", x.split(0, 0), BoxProver.NONE);
        Due.is("15: case two of the ninth", closeByTheRow(x), 9);
        Due.is("14: a tenth again", x.split(1, 1), 9);
        splitIs(x, 8, 0, 3, 2, 8);
        splitIs(x, 9, 1, 1, 1, 9);
    }

    private static void closeWithoutASplit() {
        BoxProver x = impossible();
        x.bound(0, false);
        x.assume(0, false);
        x.bound(1, false);
        Due.is("15: close", x.close(1), 0);
        Due.is("20: whole", x.count(2), 1);
        Due.is("20: closings", x.count(4), 1);
        Due.is("17: all lines stay", x.lines(), 3);
        Due.is("15: once more", x.close(1), BoxProver.NONE);
        Due.is("20: closings", x.count(4), 1);
    }

    private static void closeRefuses() {
        BoxProver x = impossible();
        x.row(1, 0, 0, 0, 0, 0);
        x.row(1, 0, 0, 0, 0, 5);
        x.row(1, 1, 0, 0, 0, -1);
        x.row(1, 0, -1, 0, 0, -1);
        x.row(1, 0, 0, 1, 0, -1);
        x.row(1, 0, 0, 0, -1, -1);
        for (int i = 0; i < 7; i++) {
            x.assume(i, false);
        }
        for (int i = 1; i < 7; i++) {
            Due.is("15: close(" + i + ")", x.close(i), BoxProver.NONE);
        }
        for (int wrong : new int[] {-1, 7, 200, BIG, SMALL}) {
            Due.is("15: close(" + wrong + ")", x.close(wrong), BoxProver.NONE);
        }
        Due.is("20: not whole", x.count(2), 0);
        Due.is("20: closings", x.count(4), 0);
        Due.is("17: lines()", x.lines(), 7);
        Due.is("15: close(0)", x.close(0), 0);
    }

    private static void closeGoesThroughTheCases() {
        BoxProver x = impossible();
        x.bound(3, false);
        x.split(1, -4);
        x.bound(2, false);
        x.bound(2, true);
        Due.is("15: case one", closeByTheRow(x), 1);
        Due.is("17: lines()", x.lines(), 2);
        lineIs(x, 0, 0, 0, 0, 1, 15);
        lineIs(x, 1, 0, -1, 0, 0, 3);
        splitIs(x, 0, 1, -4, 2, 1);
        Due.is("20: closings", x.count(4), 1);
        Due.is("20: not whole", x.count(2), 0);
        Due.is("18: a line that is gone", x.line(2, 0), Due.NO_LONG);
        Due.is("15: a line that is gone", x.close(4), BoxProver.NONE);
        x.bound(0, false);
        Due.is("15: case two", closeByTheRow(x), 0);
        Due.is("20: whole", x.count(2), 1);
        Due.is("20: splits", x.count(3), 0);
        Due.is("20: closings", x.count(4), 2);
        Due.is("17: lines from before the split", x.lines(), 1);
        lineIs(x, 0, 0, 0, 0, 1, 15);
        Due.is("19: ofSplit(0, 0)", x.ofSplit(0, 0), Due.NO_INT);
    }

    private static void oneClosingMayCloseMany() {
        BoxProver x = impossible();
        x.bound(0, false);
        x.bound(0, true);
        x.split(0, 3);
        Due.is("15: into case two", closeByTheRow(x), 1);
        x.split(1, 4);
        Due.is("15: into case two", closeByTheRow(x), 2);
        x.split(2, 5);
        Due.is("15: into case two", closeByTheRow(x), 3);
        Due.is("17: lines()", x.lines(), 5);
        lineIs(x, 4, 0, 0, -1, 0, -6);
        Due.is("15: closes all", closeByTheRow(x), 0);
        Due.is("20: whole", x.count(2), 1);
        Due.is("20: closings", x.count(4), 4);
        Due.is("17: lines()", x.lines(), 2);
    }

    private static void aCaseOneStopsTheClosing() {
        BoxProver x = impossible();
        x.bound(0, false);
        x.split(0, 3);
        x.bound(1, false);
        x.split(1, 15);
        Due.is("15: into case two", closeByTheRow(x), 2);
        lineIs(x, 3, 0, -1, 0, 0, -16);
        x.split(2, -16);
        Due.is("15: into case two", closeByTheRow(x), 3);
        lineIs(x, 4, 0, 0, -1, 0, 15);
        Due.is("15: two splits end, the first goes on", closeByTheRow(x), 1);
        splitIs(x, 0, 0, 3, 2, 1);
        Due.is("17: lines()", x.lines(), 2);
        lineIs(x, 1, -1, 0, 0, 0, -4);
        Due.is("20: not whole", x.count(2), 0);
        Due.is("20: closings", x.count(4), 3);
    }

    private static void aSplitAtTheLastLine() {
        BoxProver x = impossible();
        x.assume(0, false);
        for (int i = 1; i < 199; i++) {
            x.bound(0, false);
        }
        Due.is("14: the last line", x.split(3, -1), 199);
        Due.is("14: full", x.split(3, -1), BoxProver.NONE);
        Due.is("15: by a line from before", x.close(0), 1);
        Due.is("17: lines()", x.lines(), 200);
        lineIs(x, 199, 0, 0, 0, -1, 0);
        Due.is("15: by a line from before", x.close(0), 0);
        Due.is("17: lines()", x.lines(), 199);
        Due.is("20: whole", x.count(2), 1);
    }

    /** That 2 x0 + 2 x1 is not 1, by dividing; that x0 + 31 x1 is not 16 for x0 -14 .. 0, by cases. */
    private static void aProofByCases() {
        BoxProver x = new BoxProver();
        x.row(0, 2, 2, 0, 0, 1);
        x.divide(x.assume(0, false), 2);
        x.divide(x.assume(0, true), 2);
        Due.is("12: 0 is at most -1", x.add(1, 1, 3, 1), 4);
        lineIs(x, 4, 0, 0, 0, 0, -1);
        Due.is("15: whole", x.close(4), 0);

        x = new BoxProver();
        x.row(0, 1, 31, 0, 0, 16);
        x.row(1, 1, 0, 0, 0, 0);
        Due.is("6: decide()", x.decide(), true);
        x.row(1, -1, 0, 0, 0, 14);
        Due.is("6: decide()", x.decide(), false);
        Due.is("14: x1 at most 0", x.split(1, 0), 0);
        x.assume(0, true);
        x.assume(1, false);
        x.add(1, 1, 2, 1);
        Due.is("12: case one", x.add(3, 1, 0, 31), 4);
        Due.is("15: case one", x.close(4), 1);
        lineIs(x, 0, 0, -1, 0, 0, -1);
        x.assume(0, false);
        x.assume(2, false);
        x.add(1, 1, 2, 1);
        Due.is("12: case two", x.add(3, 1, 0, 31), 4);
        lineIs(x, 4, 0, 0, 0, 0, -1);
        Due.is("15: case two", x.close(4), 0);
        Due.is("20: whole", x.count(2), 1);
        Due.is("17: lines()", x.lines(), 0);
    }

    private static void finishWithASolution() {
        BoxProver x = new BoxProver();
        x.row(0, 1, 0, 0, 0, 4);
        Due.is("16: no split", x.finish(), 0);
        x.bound(0, false);
        x.split(0, 3);
        Due.is("16: in the case two to come", x.finish(), 0);
        x.split(1, 3);
        Due.is("16: deeper", x.finish(), 0);
        Due.is("20: not whole", x.count(2), 0);
        Due.is("20: splits stay", x.count(3), 2);
        Due.is("17: lines stay", x.lines(), 3);
        Due.is("20: closings", x.count(4), 0);
        Due.is("11: the log goes on", x.bound(0, true), 3);

        x = new BoxProver();
        x.row(0, 1, 0, 0, 0, 4);
        x.split(0, 4);
        Due.is("16: in the branch", x.finish(), 0);
        x.split(1, -16);
        Due.is("16: in the case two of a split in it", x.finish(), 0);
        // Case one of the inner split is closed: x1 is at most -16, and at least -15.
        x.bound(1, true);
        x.add(1, 1, 2, 1);
        Due.is("15: inner case one", x.close(3), 2);
        Due.is("16: in a case two", x.finish(), 0);
        splitIs(x, 1, 1, -16, 2, 1);
        Due.is("17: lines stay", x.lines(), 2);

        x = new BoxProver();
        x.row(0, 99, 99, 99, 99, 5940);
        x.split(3, 14);
        Due.is("16: one solution alone", x.finish(), 0);
        Due.is("20: splits stay", x.count(3), 1);
    }

    private static void finishWithout() {
        BoxProver x = new BoxProver();
        x.row(0, 2, 4, 6, 8, 7);
        x.bound(0, false);
        x.assume(0, false);
        Due.is("16: finish()", x.finish(), 1);
        Due.is("20: whole", x.count(2), 1);
        Due.is("20: closings", x.count(4), 0);
        Due.is("17: all lines stay", x.lines(), 2);
        lineIs(x, 1, 2, 4, 6, 8, 7);
        Due.is("16: once more", x.finish(), BoxProver.NONE);
        Due.is("11: nothing comes", x.bound(0, false), BoxProver.NONE);
        Due.is("6: decide()", x.decide(), false);
        Due.is("17: lines()", x.lines(), 2);
        x.push();
        Due.is("16: of an empty log", x.finish(), 1);
        Due.is("17: lines()", x.lines(), 0);
    }

    private static void finishCutsAtTheOutermostSplit() {
        BoxProver x = impossible();
        x.bound(0, false);
        x.bound(1, false);
        x.split(0, 0);
        x.bound(2, false);
        Due.is("15: case one", closeByTheRow(x), 1);
        x.bound(2, false);
        x.split(1, 5);
        x.split(2, 5);
        Due.is("16: finish()", x.finish(), 1);
        Due.is("17: lines()", x.lines(), 2);
        Due.is("20: splits", x.count(3), 0);
        Due.is("20: whole", x.count(2), 1);
        Due.is("20: closings of close()", x.count(4), 1);
        Due.is("19: ofSplit(0, 0)", x.ofSplit(0, 0), Due.NO_INT);
        lineIs(x, 1, 0, 1, 0, 0, 15);
        Due.is("18: line(2, 0)", x.line(2, 0), Due.NO_LONG);
        Due.is("16: once more", x.finish(), BoxProver.NONE);

        x = impossible();
        x.bound(3, true);
        x.split(0, 0);
        x.bound(2, false);
        Due.is("16: one split", x.finish(), 1);
        Due.is("17: lines()", x.lines(), 1);
        Due.is("20: splits", x.count(3), 0);
        lineIs(x, 0, 0, 0, 0, -1, 15);
    }

    private static void finishWhenFull() {
        BoxProver x = new BoxProver();
        x.row(0, 98, 0, 0, 0, 97);
        for (int i = 0; i < 10; i++) {
            x.split(i % 4, i);
        }
        for (int i = 10; i < 200; i++) {
            x.bound(0, false);
        }
        Due.is("17: full", x.lines(), 200);
        Due.is("16: finish()", x.finish(), 1);
        Due.is("17: lines()", x.lines(), 0);
        x = new BoxProver();
        x.row(0, 98, 0, 0, 0, 97);
        for (int i = 0; i < 200; i++) {
            x.bound(0, false);
        }
        Due.is("16: finish()", x.finish(), 1);
        Due.is("17: lines()", x.lines(), 200);
    }

    private static void countKnowsItsNumbers() {
        BoxProver x = impossible();
        x.push();
        x.push();
        x.row(1, 0, 0, 0, 0, 0);
        x.split(0, 0);
        x.split(0, 1);
        x.split(0, 2);
        closeByTheRow(x);
        closeByTheRow(x);
        closeByTheRow(x);
        x.split(0, 5);
        int[] want = {2, 2, 0, 2, 3};
        for (int what = 0; what < 5; what++) {
            Due.is("20: count(" + what + ")", x.count(what), want[what]);
        }
        for (int wrong : new int[] {-1, 5, BIG, SMALL}) {
            Due.is("20: count(" + wrong + ")", x.count(wrong), BoxProver.NONE);
        }
    }
}
