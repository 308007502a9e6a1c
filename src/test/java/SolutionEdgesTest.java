/** The boundary cases of promises 6 to 9 and of the terms behind them, a test for each sentence. */
public final class SolutionEdgesTest {
    private static final int CUBE = 31 * 31 * 31;
    private static final int ALL = 31 * CUBE;
    private static final int[] WRONG_WORDS = {-1, 4, 5, 256, 65536, Edge.BIG, Edge.SMALL};

    public static void main(String[] args) {
        Due.watch();
        wordsAreFromMinus15To15();
        kind0TheSumIsTheBound();
        kind1TheSumIsAtMostTheBound();
        theGreatestNumbersAndBounds();
        allRowsHold();
        decideWhetherThereIsOne();
        firstValueOfAWord();
        firstOfTheSameX0TheLesserX1();
        firstMinus100WhenThereIsNone();
        firstMinus100NoSuchWord();
        solutionsFromNoneToAll();
        rangeLeastAndGreatest();
        rangeOfOneSolution();
        rangeIsNotThatOfTheFirst();
        rangeMinus100WhenThereIsNone();
        rangeMinus100NoSuchWord();
        askingChangesNothing();
        theLogDoesNotCount();
        Due.end();
    }

    private static int[] r(int kind, int c0, int c1, int c2, int c3, int bound) {
        return new int[] {kind, c0, c1, c2, c3, bound};
    }

    private static int[] oneWord(int kind, int w, int c, int bound) {
        int[] row = {kind, 0, 0, 0, 0, bound};
        row[1 + w] = c;
        return row;
    }

    private static Asked with(int[]... rows) {
        Asked x = new Asked();
        for (int[] row : rows) {
            Due.is("2: a row comes", x.row(row[0], row[1], row[2], row[3], row[4], row[5]) != BoxProver.NONE, true);
        }
        return x;
    }

    private static void firstIs(String sentence, Asked x, int... want) {
        for (int w = 0; w < 4; w++) {
            Due.is(sentence + ", first(" + w + ")", x.first(w), want[w]);
        }
    }

    private static void rangeIs(String sentence, Asked x, int w, int least, int greatest) {
        Due.is(sentence + ", range(" + w + ", false)", x.range(w, false), least);
        Due.is(sentence + ", range(" + w + ", true)", x.range(w, true), greatest);
    }

    /** Answers of all four promises at once; with no solution they are 0 and -100. */
    private static void manyAre(String sentence, Asked x, int many) {
        Due.is(sentence + ", decide()", x.decide(), many > 0);
        Due.is(sentence + ", solutions()", x.solutions(), many);
        for (int w = 0; w < 4; w++) {
            Due.is(sentence + ", first(" + w + ")", x.first(w) != -100, many > 0);
            Due.is(sentence + ", range(" + w + ", false)", x.range(w, false) != -100, many > 0);
            Due.is(sentence + ", range(" + w + ", true)", x.range(w, true) != -100, many > 0);
        }
    }

    /** Terms: "WORDS x0 .. x3 are whole numbers -15 .. 15." */
    private static void wordsAreFromMinus15To15() {
        for (int w = 0; w < 4; w++) {
            for (int value = -15; value <= 15; value += 30) {
                Asked x = with(oneWord(0, w, 1, value));
                manyAre("x" + w + " is " + value, x, CUBE);
                Due.is("7: x" + w + " is " + value, x.first(w), value);
                rangeIs("x" + w + " is " + value, x, w, value, value);
            }
            manyAre("x" + w + " is -16", with(oneWord(0, w, 1, -16)), 0);
            manyAre("x" + w + " is 16", with(oneWord(0, w, 1, 16)), 0);
            manyAre("x" + w + " is at most -15", with(oneWord(1, w, 1, -15)), CUBE);
            manyAre("x" + w + " is at most -16", with(oneWord(1, w, 1, -16)), 0);
            manyAre("x" + w + " is at least 15", with(oneWord(1, w, -1, -15)), CUBE);
            manyAre("x" + w + " is at least 16", with(oneWord(1, w, -1, -16)), 0);
            manyAre("x" + w + " is at most 14", with(oneWord(1, w, 1, 14)), 30 * CUBE);
            manyAre("x" + w + " is at most 15", with(oneWord(1, w, 1, 15)), ALL);
            manyAre("x" + w + " is at least -14", with(oneWord(1, w, -1, 14)), 30 * CUBE);
            manyAre("x" + w + " is at least -15", with(oneWord(1, w, -1, 15)), ALL);
            manyAre("2 x" + w + " is 1: whole numbers", with(oneWord(0, w, 2, 1)), 0);
        }
    }

    /** Terms: "0, the sum of numbers times words is the bound". */
    private static void kind0TheSumIsTheBound() {
        int[] corner = r(0, 1, -1, 1, -1, 60);
        manyAre("the greatest sum", with(corner), 1);
        manyAre("one more than that", with(r(0, 1, -1, 1, -1, 61)), 0);
        manyAre("the least sum", with(r(0, 1, -1, 1, -1, -60)), 1);
        manyAre("one less than that", with(r(0, 1, -1, 1, -1, -61)), 0);
        manyAre("one below the greatest", with(r(0, 1, -1, 1, -1, 59)), 4);
        manyAre("all 0, bound 0", with(r(0, 0, 0, 0, 0, 0)), ALL);
        manyAre("all 0, bound 1", with(r(0, 0, 0, 0, 0, 1)), 0);
        manyAre("all 0, bound -1", with(r(0, 0, 0, 0, 0, -1)), 0);
    }

    /** Terms: "or 1, it is at most that". */
    private static void kind1TheSumIsAtMostTheBound() {
        manyAre("the least sum", with(r(1, 1, -1, 1, -1, -60)), 1);
        manyAre("one less than that", with(r(1, 1, -1, 1, -1, -61)), 0);
        manyAre("the greatest sum", with(r(1, 1, -1, 1, -1, 60)), ALL);
        manyAre("one less than that", with(r(1, 1, -1, 1, -1, 59)), ALL - 1);
        manyAre("all 0, bound 0", with(r(1, 0, 0, 0, 0, 0)), ALL);
        manyAre("all 0, bound -1", with(r(1, 0, 0, 0, 0, -1)), 0);
        manyAre("all 0, bound 1", with(r(1, 0, 0, 0, 0, 1)), ALL);
    }

    /** Terms: numbers -99 .. 99 and bounds -9999 .. 9999 at their ends: 4 times 15 times 99 is 5940. */
    private static void theGreatestNumbersAndBounds() {
        manyAre("99 each, at most -5940", with(r(1, 99, 99, 99, 99, -5940)), 1);
        manyAre("99 each, at most -5941", with(r(1, 99, 99, 99, 99, -5941)), 0);
        manyAre("-99 each, is 5940", with(r(0, -99, -99, -99, -99, 5940)), 1);
        manyAre("-99 each, is 5941", with(r(0, -99, -99, -99, -99, 5941)), 0);
        manyAre("99 each, at most 9999", with(r(1, 99, 99, 99, 99, 9999)), ALL);
        manyAre("-99 each, at most 9999", with(r(1, -99, -99, -99, -99, 9999)), ALL);
        manyAre("99 each, at most -9999", with(r(1, 99, 99, 99, 99, -9999)), 0);
        manyAre("99 each, is 9999", with(r(0, 99, 99, 99, 99, 9999)), 0);
        manyAre("-99 each, is -9999", with(r(0, -99, -99, -99, -99, -9999)), 0);
    }

    /** Terms: "A SOLUTION has a value for each word so that all rows hold": each of sixteen alone may rule it out. */
    private static void allRowsHold() {
        for (int out = 0; out < 16; out++) {
            manyAre("row " + out + ", 0 is at most -1", sixteenRows(1, out, -1), 0);
            manyAre("row " + out + ", 0 is at most 1", sixteenRows(1, out, 1), ALL);
            manyAre("row " + out + ", 0 is -1", sixteenRows(0, out, -1), 0);
            manyAre("row " + out + ", 0 is 1", sixteenRows(0, out, 1), 0);
            manyAre("row " + out + ", 0 is 0", sixteenRows(0, out, 0), ALL);
        }
        Asked x = new Asked();
        for (int i = 0; i < 16; i++) {
            x.row(i % 2, i, i, i, i, 60 * i);
        }
        manyAre("sixteen rows that hold at one corner", x, 1);
        firstIs("sixteen rows that hold at one corner", x, 15, 15, 15, 15);
    }

    /** Sixteen rows that all numbers hold, but for the bound of one. */
    private static Asked sixteenRows(int kind, int out, int bound) {
        Asked x = new Asked();
        for (int i = 0; i < 16; i++) {
            x.row(kind, 0, 0, 0, 0, i == out ? bound : 0);
        }
        return x;
    }

    /** Promise 6: "Whether there is a solution": none, one, all. */
    private static void decideWhetherThereIsOne() {
        Due.is("6: no rows", new Asked().decide(), true);
        Asked x = with(r(0, 31, 1, 0, 0, 480), r(0, 0, 0, 31, 1, -480));
        Due.is("6: one solution", x.decide(), true);
        x.push();
        x.row(1, 0, 0, 0, 1, -16);
        Due.is("6: none", x.decide(), false);
        x.pop();
        Due.is("6: one again", x.decide(), true);
        Due.is("6: a refused row", x.row(0, 0, 0, 0, 100, 0), BoxProver.NONE);
        Due.is("6: still one", x.decide(), true);
    }

    /** Promise 7: "The value of a word in the first solution": at the least and at the greatest value. */
    private static void firstValueOfAWord() {
        firstIs("7: no rows", new Asked(), -15, -15, -15, -15);
        firstIs("7: the last corner", with(r(0, 1, 1, 1, 1, 60)), 15, 15, 15, 15);
        firstIs("7: mixed", with(r(1, -1, 1, -1, 1, -60)), 15, -15, 15, -15);
        firstIs("7: 0 is a value", with(r(0, 31, 1, 0, 0, 0), r(0, 0, 0, 31, 1, 0)), 0, 0, 0, 0);
    }

    /** Terms: "OF TWO the first is that with the lesser x0; of the same x1, and so on." */
    private static void firstOfTheSameX0TheLesserX1() {
        // Each row leaves two solutions or more that differ at the earliest in the word named.
        firstIs("7: by x0", with(r(0, 1, 1, 0, 0, 1), r(0, 0, 0, 1, 1, 30), r(1, -1, 0, 0, 0, 0)), 0, 1, 15, 15);
        firstIs("7: by x1", with(r(0, 1, 0, 0, 0, 7), r(0, 0, 1, 1, 0, 0), r(0, 0, 0, 1, -1, 0)), 7, -15, 15, 15);
        firstIs("7: by x2", with(r(0, 1, 0, 0, 0, 7), r(0, 0, 1, 0, 0, 9), r(0, 0, 0, 1, 1, 1)), 7, 9, -14, 15);
        firstIs("7: by x3", with(r(0, 1, 1, 1, 0, 45), r(1, 0, 0, 0, -1, -14)), 15, 15, 15, 14);
        firstIs("7: x0 goes before all others", with(r(1, -1, -15, -15, -15, -60)), -15, -15, 5, 15);
    }

    /** Promise 7: "-100 when there is none". */
    private static void firstMinus100WhenThereIsNone() {
        for (int w = 0; w < 4; w++) {
            int word = w;
            Edge.refused("7: no solution", State.OPEN_LOG, x -> x.first(word), -100);
            Due.is("7: one solution", with(r(0, 1, 1, 1, 1, -60)).first(w), -15);
        }
        Asked x = with(r(0, 2, 2, 2, 2, 1));
        firstIs("7: no solution", x, -100, -100, -100, -100);
        Due.is("7: none, and no such word", x.first(4), -100);
        Due.is("7: none, and no such word", x.first(-1), -100);
    }

    /** Promise 7: "or no such word". */
    private static void firstMinus100NoSuchWord() {
        Asked x = with(r(1, 1, 2, 3, 4, 5));
        for (int wrong : WRONG_WORDS) {
            Due.is("7: word " + wrong, x.first(wrong), -100);
            Edge.refusedAlways("7: word " + wrong, y -> y.first(wrong), -100);
        }
        Due.is("7: word 0", x.first(0), -15);
        Due.is("7: word 3", x.first(3), -15);
    }

    /** Promise 8: "How many solutions there are": none, one, all but one, all. */
    private static void solutionsFromNoneToAll() {
        Due.is("8: no rows", new Asked().solutions(), 923521);
        Due.is("8: a row that always holds", with(r(1, 99, 99, 99, 99, 5940)).solutions(), 923521);
        Due.is("8: all but one", with(r(1, 99, 99, 99, 99, 5939)).solutions(), 923520);
        Due.is("8: all but the first", with(r(1, -99, -99, -99, -99, 5939)).solutions(), 923520);
        Due.is("8: one", with(r(1, 99, 99, 99, 99, -5940)).solutions(), 1);
        Due.is("8: two", with(r(0, 1, 0, 0, 0, 0), r(0, 0, 1, 1, 0, 30), r(1, 0, 0, 0, 1, -14)).solutions(), 2);
        Due.is("8: none", with(r(1, 99, 99, 99, 99, -5941)).solutions(), 0);
    }

    /** Promise 9: "The least (most: greatest) value of a word in any solution": to the ends of the words. */
    private static void rangeLeastAndGreatest() {
        for (int w = 0; w < 4; w++) {
            rangeIs("9: no rows", new Asked(), w, -15, 15);
            rangeIs("9: at most 14", with(oneWord(1, w, 1, 14)), w, -15, 14);
            rangeIs("9: at least -14", with(oneWord(1, w, -1, 14)), w, -14, 15);
            rangeIs("9: at most -15", with(oneWord(1, w, 1, -15)), w, -15, -15);
            rangeIs("9: at least 15", with(oneWord(1, w, -1, -15)), w, 15, 15);
            rangeIs("9: at most 99", with(oneWord(1, w, 1, 99)), w, -15, 15);
            rangeIs("9: 2 x is at most -3, and at least -9", with(oneWord(1, w, 2, -3), oneWord(1, w, -2, 9)), w, -4, -2);
            rangeIs("9: 2 x is at most 3, and at least 1", with(oneWord(1, w, 2, 3), oneWord(1, w, -2, -1)), w, 1, 1);
        }
    }

    /** Promise 9 when there is one solution: the least is the greatest. */
    private static void rangeOfOneSolution() {
        Asked x = with(r(0, 99, -99, 99, -99, 5940));
        int[] value = {15, -15, 15, -15};
        for (int w = 0; w < 4; w++) {
            rangeIs("9: one solution", x, w, value[w], value[w]);
            Due.is("7: one solution", x.first(w), value[w]);
        }
    }

    /** Promise 9: "in any solution", be it the first, the last or another. */
    private static void rangeIsNotThatOfTheFirst() {
        // x1 is -x0 and x2 is x0: the first has the greatest x1, the last the least.
        Asked x = with(r(0, 1, 1, 0, 0, 0), r(0, 1, 0, -1, 0, 0), r(0, 0, 0, 0, 1, 3));
        firstIs("9: the first", x, -15, 15, -15, 3);
        rangeIs("9: in the last and the first", x, 1, -15, 15);
        rangeIs("9: in the first and the last", x, 2, -15, 15);
        // x3 is greatest where x0 is 0: x3 is at most 7 + x0 and at most 7 - x0.
        x = with(r(1, -1, 0, 0, 1, 7), r(1, 1, 0, 0, 1, 7));
        rangeIs("9: in one between", x, 3, -15, 7);
        firstIs("9: the first", x, -15, -15, -15, -15);
    }

    /** Promise 9: "-100 likewise", when there is none. */
    private static void rangeMinus100WhenThereIsNone() {
        for (int w = 0; w < 4; w++) {
            int word = w;
            Edge.refused("9: no solution, least", State.OPEN_LOG, x -> x.range(word, false), -100);
            Edge.refused("9: no solution, greatest", State.OPEN_LOG, x -> x.range(word, true), -100);
        }
        Asked x = with(r(0, 2, 2, 2, 2, 1));
        rangeIs("9: no solution", x, 0, -100, -100);
        rangeIs("9: none, and no such word", x, 4, -100, -100);
        x = with(r(1, 1, 0, 0, 0, -15));
        rangeIs("9: there are some", x, 0, -15, -15);
        x.row(1, -1, 0, 0, 0, 14);
        rangeIs("9: there are none any more", x, 0, -100, -100);
    }

    /** Promise 9: "-100 likewise", no such word. */
    private static void rangeMinus100NoSuchWord() {
        Asked x = with(r(1, 1, 2, 3, 4, 5));
        for (int wrong : WRONG_WORDS) {
            rangeIs("9: word " + wrong, x, wrong, -100, -100);
            Edge.refusedAlways("9: word " + wrong + ", least", y -> y.range(wrong, false), -100);
            Edge.refusedAlways("9: word " + wrong + ", greatest", y -> y.range(wrong, true), -100);
        }
        rangeIs("9: word 0", x, 0, -15, 15);
        rangeIs("9: word 3", x, 3, -15, 15);
    }

    /** Promises 6 to 9 tell; nothing is changed by them, in whatever order they are asked. */
    private static void askingChangesNothing() {
        for (State state : State.values()) {
            Asked told = state.make();
            int many = told.solutions();
            int first = told.first(1);
            int least = told.range(1, false);
            int greatest = told.range(1, true);
            Edge.leavesAll("6: decide() in " + state, state, x -> x.decide() ? 1 : 0, many > 0 ? 1 : 0);
            Edge.leavesAll("7: first(1) in " + state, state, x -> x.first(1), first);
            Edge.leavesAll("8: solutions() in " + state, state, Asked::solutions, many);
            Edge.leavesAll("9: range(1, false) in " + state, state, x -> x.range(1, false), least);
            Edge.leavesAll("9: range(1, true) in " + state, state, x -> x.range(1, true), greatest);
        }
        // Each as the first call that asks, then the others.
        int[] rows = r(0, 3, -5, 0, 0, 7);
        Due.is("8: asked first", with(rows).solutions(), 6 * 961);
        Asked x = with(rows);
        Due.is("6: decide()", x.decide(), true);
        Due.is("8: behind decide()", x.solutions(), 6 * 961);
        x = with(rows);
        Due.is("7: first(0)", x.first(0), -11);
        rangeIs("9: behind first(0)", x, 0, -11, 14);
        Due.is("7: behind range", x.first(1), -8);
        Due.is("8: behind all", x.solutions(), 6 * 961);
    }

    /** Terms: a solution is one of the rows; lines, splits and a whole log take none of them away. */
    private static void theLogDoesNotCount() {
        Asked x = with(r(1, 1, 0, 0, 0, -14));
        Due.is("8: before", x.solutions(), 2 * CUBE);
        x.split(0, -15);
        x.split(1, -16);
        Due.is("8: with splits", x.solutions(), 2 * CUBE);
        rangeIs("9: with splits", x, 0, -15, -14);
        Due.is("6: with a split that leaves none", x.decide(), true);
        x = State.WHOLE_BY_FINISH.make();
        manyAre("a whole log", x, 0);
        x.pop();
        manyAre("behind a whole log", x, ALL);
    }
}
