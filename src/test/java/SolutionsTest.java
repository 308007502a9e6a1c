/** Promises 6 to 9: decide, first, solutions, range. */
public final class SolutionsTest {
    private static final int BIG = Integer.MAX_VALUE;
    private static final int SMALL = Integer.MIN_VALUE;

    public static void main(String[] args) {
        Due.watch();
        withoutRowsAllNumbersDo();
        oneSolution();
        noSolution();
        wordsAreFourAlone();
        kindsDiffer();
        theFirstGoesByX0ThenX1();
        boundsThatHoldOrMissByOne();
        parityAndDivisors();
        answersFollowTheRows();
        sixteenRowsCount();
        askingChangesNothing();
        Due.end();
    }

    private static BoxProver with(int[]... rows) {
        BoxProver x = new BoxProver();
        for (int[] r : rows) {
            x.row(r[0], r[1], r[2], r[3], r[4], r[5]);
        }
        return x;
    }

    private static int[] r(int kind, int c0, int c1, int c2, int c3, int bound) {
        return new int[] {kind, c0, c1, c2, c3, bound};
    }

    private static void firstIs(BoxProver x, int x0, int x1, int x2, int x3) {
        Due.is("7: first(0)", x.first(0), x0);
        Due.is("7: first(1)", x.first(1), x1);
        Due.is("7: first(2)", x.first(2), x2);
        Due.is("7: first(3)", x.first(3), x3);
    }

    private static void rangeIs(BoxProver x, int word, int least, int most) {
        Due.is("9: range(" + word + ", false)", x.range(word, false), least);
        Due.is("9: range(" + word + ", true)", x.range(word, true), most);
    }

    private static void withoutRowsAllNumbersDo() {
        BoxProver x = new BoxProver();
        Due.is("6: decide()", x.decide(), true);
        Due.is("8: solutions()", x.solutions(), 923521);
        firstIs(x, -15, -15, -15, -15);
        for (int w = 0; w < 4; w++) {
            rangeIs(x, w, -15, 15);
        }
    }

    private static void oneSolution() {
        BoxProver x = with(r(0, 1, 0, 0, 0, 3), r(0, 1, 1, 0, 0, -4), r(0, 0, 1, 2, 0, 13), r(0, 1, 1, 1, 1, 21));
        Due.is("6: decide()", x.decide(), true);
        Due.is("8: solutions()", x.solutions(), 1);
        firstIs(x, 3, -7, 10, 15);
        rangeIs(x, 0, 3, 3);
        rangeIs(x, 1, -7, -7);
        rangeIs(x, 2, 10, 10);
        rangeIs(x, 3, 15, 15);
    }

    private static void noSolution() {
        BoxProver x = with(r(1, 1, 1, 0, 0, 2), r(1, -1, -1, 0, 0, -3));
        Due.is("6: decide()", x.decide(), false);
        Due.is("8: solutions()", x.solutions(), 0);
        firstIs(x, -100, -100, -100, -100);
        for (int w = 0; w < 4; w++) {
            rangeIs(x, w, -100, -100);
        }
    }

    private static void wordsAreFourAlone() {
        BoxProver x = new BoxProver();
        for (int wrong : new int[] {-1, 4, BIG, SMALL}) {
            Due.is("7: first(" + wrong + ")", x.first(wrong), -100);
            Due.is("9: range(" + wrong + ", false)", x.range(wrong, false), -100);
            Due.is("9: range(" + wrong + ", true)", x.range(wrong, true), -100);
        }
    }

    private static void kindsDiffer() {
        Due.is("8: x0 is 4", with(r(0, 1, 0, 0, 0, 4)).solutions(), 29791);
        Due.is("8: x0 is at most 4", with(r(1, 1, 0, 0, 0, 4)).solutions(), 29791 * 20);
        Due.is("8: -x3 is at most 4", with(r(1, 0, 0, 0, -1, 4)).solutions(), 29791 * 20);
        Due.is("8: 0 is 0", with(r(0, 0, 0, 0, 0, 0)).solutions(), 923521);
        Due.is("8: 0 is 1", with(r(0, 0, 0, 0, 0, 1)).solutions(), 0);
        Due.is("8: 0 is -1", with(r(0, 0, 0, 0, 0, -1)).solutions(), 0);
        Due.is("8: 0 is at most 1", with(r(1, 0, 0, 0, 0, 1)).solutions(), 923521);
        Due.is("8: 0 is at most 0", with(r(1, 0, 0, 0, 0, 0)).solutions(), 923521);
        Due.is("8: 0 is at most -1", with(r(1, 0, 0, 0, 0, -1)).solutions(), 0);
    }

    private static void theFirstGoesByX0ThenX1() {
        BoxProver x = with(r(0, 1, 1, 1, 1, 0));
        firstIs(x, -15, -15, 15, 15);
        rangeIs(x, 0, -15, 15);
        rangeIs(x, 3, -15, 15);
        x = with(r(0, 1, 1, 1, 1, 40), r(1, 0, 1, -1, 0, -2));
        firstIs(x, -3, 13, 15, 15);
        rangeIs(x, 0, -3, 15);
        rangeIs(x, 1, -5, 13);
        rangeIs(x, 2, 6, 15);
        x = with(r(1, -2, -3, 0, 0, -60), r(1, 0, 0, 5, -7, -100));
        firstIs(x, 8, 15, -15, 4);
        rangeIs(x, 0, 8, 15);
        rangeIs(x, 1, 10, 15);
        rangeIs(x, 2, -15, 1);
        rangeIs(x, 3, 4, 15);
    }

    private static void boundsThatHoldOrMissByOne() {
        BoxProver x = with(r(1, 99, 99, -99, -99, -5940));
        Due.is("8: only the corner", x.solutions(), 1);
        firstIs(x, -15, -15, 15, 15);
        Due.is("6: beyond the corner", with(r(1, 99, 99, -99, -99, -5941)).decide(), false);
        Due.is("6: far beyond", with(r(1, 99, 99, 99, 99, -9999)).decide(), false);
        Due.is("8: all", with(r(1, 99, -99, 99, -99, 5940)).solutions(), 923521);
        Due.is("8: all but one", with(r(1, 99, -99, 99, -99, 5939)).solutions(), 923520);
        Due.is("8: equality at the corner", with(r(0, 99, -99, 99, -99, 5940)).solutions(), 1);
        Due.is("6: equality beyond it", with(r(0, 99, -99, 99, -99, 5941)).decide(), false);
        Due.is("6: equality below the other", with(r(0, 99, -99, 99, -99, -5941)).decide(), false);
    }

    private static void parityAndDivisors() {
        Due.is("6: an odd sum of even numbers", with(r(0, 2, 4, -6, 8, 1)).decide(), false);
        Due.is("6: an even one", with(r(0, 2, 4, -6, 8, 2)).decide(), true);
        BoxProver x = with(r(0, 3, -5, 0, 0, 7), r(0, 0, 0, 7, 11, 1));
        // x0 = 4 + 5t, x1 = 1 + 3t for t -3 .. 2; x2 = 8 - 11s, x3 = -5 + 7s for s 0 .. 2.
        Due.is("8: solutions()", x.solutions(), 6 * 3);
        firstIs(x, -11, -8, -14, 9);
        rangeIs(x, 0, -11, 14);
        rangeIs(x, 1, -8, 7);
        rangeIs(x, 2, -14, 8);
        rangeIs(x, 3, -5, 9);
        Due.is("8: 2 x3 is at most -3", with(r(1, 0, 0, 0, 2, -3)).solutions(), 29791 * 14);
        Due.is("8: -2 x3 is at most -3", with(r(1, 0, 0, 0, -2, -3)).solutions(), 29791 * 14);
        Due.is("8: 2 x0 is at most 3", with(r(1, 2, 0, 0, 0, 3)).solutions(), 29791 * 17);
    }

    private static void answersFollowTheRows() {
        BoxProver x = new BoxProver();
        Due.is("8: none yet", x.solutions(), 923521);
        x.push();
        Due.is("8: a layer alone", x.solutions(), 923521);
        x.row(0, 1, 0, 0, 0, 5);
        Due.is("7: first(0)", x.first(0), 5);
        Due.is("8: one row", x.solutions(), 29791);
        x.push();
        x.row(0, 1, 0, 0, 0, 6);
        Due.is("6: two rows", x.decide(), false);
        Due.is("7: first(0)", x.first(0), -100);
        x.row(17, 0, 0, 0, 0, 0);
        Due.is("6: a refused row", x.decide(), false);
        x.pop();
        Due.is("6: one row again", x.decide(), true);
        rangeIs(x, 0, 5, 5);
        rangeIs(x, 1, -15, 15);
        x.pop();
        rangeIs(x, 0, -15, 15);
        Due.is("8: none again", x.solutions(), 923521);
    }

    /** The last of sixteen rows of kind 0 decides, at its upper and at its lower side. */
    private static void sixteenRowsCount() {
        for (int sign = -1; sign <= 1; sign += 2) {
            BoxProver x = new BoxProver();
            for (int i = 1; i <= 15; i++) {
                x.row(0, i, -i, 0, 0, 2 * i);
            }
            Due.is("8: fifteen rows", x.solutions(), 29 * 961);
            x.row(0, 0, 0, sign, 3 * sign, 60);
            Due.is("8: sixteen rows", x.solutions(), 29);
            firstIs(x, -13, -15, 15 * sign, 15 * sign);
            rangeIs(x, 0, -13, 15);
            rangeIs(x, 2, 15 * sign, 15 * sign);
        }
    }

    private static void askingChangesNothing() {
        BoxProver x = with(r(1, 1, 2, 3, 4, 0));
        x.bound(0, false);
        x.split(0, -15);
        int many = x.solutions();
        Due.is("8: lines and splits don't count", many, with(r(1, 1, 2, 3, 4, 0)).solutions());
        x.decide();
        x.range(0, true);
        x.first(2);
        x.finish();
        Due.is("8: the same again", x.solutions(), many);
        Due.is("7: and the first", x.first(3), -15);
        rangeIs(x, 0, -15, 15);
        Due.is("17: lines stay", x.lines(), 2);
        Due.is("20: splits stay", x.count(3), 1);
        Due.is("20: rows stay", x.count(0), 1);
    }
}
